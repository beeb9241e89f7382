/** Promises 2, 3, 4, 5, 6: what is an expression, what a definition, and where a text stops being one. */
public final class ReadingTest {
    private static final Due DUE = new Due();

    public static void main(String[] args) {
        theTextHasSixtyCharacters();
        wipeEmptiesTheText();
        leaves();
        brackets();
        nesting();
        scope();
        freeNames();
        manyBindings();
        functionsInTexts();
        definitions();
        DUE.end();
    }

    private static void theTextHasSixtyCharacters() {
        Session x = new Session();
        for (int i = 0; i < 60; i++) {
            DUE.same("type " + i, x.type('1'), true);
        }
        DUE.same("type 61st", x.type('1'), false);
        DUE.same("type 62nd", x.type(')'), false);
        x.wipe();
        DUE.same("type after wipe", x.type('7'), true);
        DUE.same("refused characters are gone", x.check(), "1");
        String full = "(?(?(?111)(?111)(?111))(?(?111)(?111)1)(?(?111)(?111)(!(!1))))";
        DUE.same("length 62", full.length(), 62);
        String sixty = "(?(?(?111)(?111)(?111))(?(?111)(?111)1)(?(?111)(?111)(+11)))";
        DUE.same("length 60", sixty.length(), 60);
        DUE.same("60 characters", x.checked(sixty), "1");
        DUE.same("the rest is refused", x.checked(full), "IllegalArgumentException@60");
    }

    private static void wipeEmptiesTheText() {
        Session x = new Session();
        DUE.same("new", x.check() + x.fault(), Session.ARGUMENT + 0);
        x.text("1").wipe();
        DUE.same("wiped", x.check() + x.fault(), Session.ARGUMENT + 0);
        x.type('#');
        DUE.same("typed again", x.check() + x.fault(), "2-1");
    }

    private static void leaves() {
        Session x = new Session();
        for (char c = 0; c < 300; c++) {
            String want = Session.ARGUMENT + "@0";
            if (c >= '0' && c <= '9') {
                want = "1";
            } else if (c == '#') {
                want = "2";
            } else if (c == '~') {
                want = "4";
            } else if (c == '.') {
                want = "8";
            } else if (c == 'a' || c == 'b') {
                want = "31";
            } else if (c == '(') {
                want = Session.ARGUMENT + "@1";
            }
            DUE.same("leaf " + (int) c, x.checked(String.valueOf(c)), want);
        }
        DUE.same("char 65535", x.checked("\uffff"), Session.ARGUMENT + "@0");
        DUE.same("two leaves", x.checked("11"), Session.ARGUMENT + "@1");
        DUE.same("blank", x.checked("(N 1)"), Session.ARGUMENT + "@2");
        DUE.same("blank behind", x.checked("1 "), Session.ARGUMENT + "@1");
        DUE.same("a bracket too many", x.checked("(N1))"), Session.ARGUMENT + "@4");
    }

    private static void brackets() {
        Session x = new Session();
        String one = "NBEP!";
        for (int i = 0; i < one.length(); i++) {
            String op = "(" + one.charAt(i);
            DUE.same(op, x.checked(op), Session.ARGUMENT + "@2");
            DUE.same(op + "1", x.checked(op + "1"), Session.ARGUMENT + "@3");
            DUE.same(op + ")", x.checked(op + ")"), Session.ARGUMENT + "@2");
            DUE.same(op + "11)", x.checked(op + "11)"), Session.ARGUMENT + "@3");
            DUE.same(op + "1)", x.check(op + "1)").length(), 1);
        }
        String two = "C+-<&|";
        for (int i = 0; i < two.length(); i++) {
            String op = "(" + two.charAt(i);
            DUE.same(op + "1", x.checked(op + "1"), Session.ARGUMENT + "@3");
            DUE.same(op + "1)", x.checked(op + "1)"), Session.ARGUMENT + "@3");
            DUE.same(op + "12", x.checked(op + "12"), Session.ARGUMENT + "@4");
            DUE.same(op + "123)", x.checked(op + "123)"), Session.ARGUMENT + "@4");
            DUE.same(op + "12)", x.checked(op + "12)").length() < 3, true);
        }
        DUE.same("? with two", x.checked("(?12)"), Session.ARGUMENT + "@4");
        DUE.same("? with three", x.checked("(?123)"), "1");
        DUE.same("? with four", x.checked("(?1234)"), Session.ARGUMENT + "@5");
        DUE.same("A of a number", x.checked("(A1)"), Session.OPERATION + "@0");
        DUE.same("no operation", x.checked("(X1)"), Session.ARGUMENT + "@1");
        DUE.same("no operation, small", x.checked("(a1)"), Session.ARGUMENT + "@1");
        DUE.same("empty brackets", x.checked("()"), Session.ARGUMENT + "@1");
        DUE.same("brackets round a leaf", x.checked("(1)"), Session.ARGUMENT + "@1");
    }

    private static void nesting() {
        Session x = new Session();
        DUE.same("six", x.checked("(!(!(!(!(!(!1))))))"), "2");
        DUE.same("seven", x.checked("(!(!(!(!(!(!(!1)))))))"), Session.ARGUMENT + "@12");
        DUE.same("six, then six", x.checked("(C(!(!(!(!(!1)))))(!(!(!(!(!1))))))"), "16");
        DUE.same("seventh in the second", x.checked("(C1(!(!(!(!(!(!1)))))))"), Session.ARGUMENT + "@13");
        DUE.same("six in a definition", x.defined("Gc*(!(!(!(!(!(!c))))))"), "6");
        DUE.same("seven in a definition", x.defined("Hc*(!(!(!(!(!(!(!c)))))))"), Session.ARGUMENT + "@15");
        DUE.same("a function's brackets don't count", x.checked("(!(!(!(!(!(Ga))))))"), "6");
    }

    private static void scope() {
        Session x = new Session();
        DUE.same("c", x.checked("c"), Session.ARGUMENT + "@0");
        DUE.same("bound", x.checked("(:c1c)"), "1");
        DUE.same("not in e", x.checked("(:ccc)"), Session.ARGUMENT + "@3");
        DUE.same("not behind", x.checked("(C(:c1c)c)"), Session.ARGUMENT + "@8");
        DUE.same("again in e", x.checked("(:c(:c1c)c)"), "1");
        DUE.same("again behind", x.checked("(C(:c1c)(:c#c))"), "16");
        DUE.same("again in f", x.checked("(:c1(:c2c))"), Session.ARGUMENT + "@6");
        DUE.same("an input", x.checked("(:b1b)"), Session.ARGUMENT + "@2");
        DUE.same("i", x.checked("(:i1i)"), Session.ARGUMENT + "@2");
        DUE.same("no name", x.checked("(:"), Session.ARGUMENT + "@2");
        DUE.same("name alone", x.checked("(:h"), Session.ARGUMENT + "@3");
        DUE.same("other name", x.checked("(:c1d)"), Session.ARGUMENT + "@4");
    }

    private static void freeNames() {
        Session x = new Session();
        String five = "(:c1(:d1(:e1(:f1(:g1(:h1h))))))";
        DUE.same("six names", x.checked(five), "1");
        String all = "Gc*(:d1(:e1(:f1(:g1(:h1(:";
        DUE.same("no name left", x.defined(all), Session.ARGUMENT + "@" + (all.length() - 1));
        DUE.same("no name left, a name behind", x.defined(all + "h1h))))))"), Session.ARGUMENT + "@" + (all.length() - 1));
        String last = "Gc*(:d1(:e1(:f1(:g1(:h(:h1h)(!h))))))";
        DUE.same("the last name in e", x.defined(last), "4");
    }

    /** A text that never ends can begin more bindings than one that does. */
    private static void manyBindings() {
        Session x = new Session();
        String closed = "(:c(:c(:c11)(:d11))(:d(:e11)(:e11)))";
        String open = "(:c" + closed + "(:d1(:e1(:f1(:g1(:h1";
        DUE.same("length", open.length(), 59);
        DUE.same("13 bindings", x.checked(open), Session.ARGUMENT + "@59");
        DUE.same("13 bindings and a leaf", x.checked(open + "h"), Session.ARGUMENT + "@60");
        DUE.same("13 bindings and a bracket", x.checked(open + "("), Session.ARGUMENT + "@59");
        String eleven = closed.replace("(:e11)", "(:e(:f1f)(:g1g))");
        DUE.same("length of eleven", eleven.length(), 56);
        DUE.same("eleven that end", x.checked(eleven), "1");
        DUE.same("eleven and a test", x.checked("(N" + eleven + ")"), "2");
    }

    private static void functionsInTexts() {
        Session x = new Session();
        DUE.same("no G", x.checked("(Ga)"), Session.ARGUMENT + "@1");
        DUE.same("G", x.defined("Gc*c"), "31");
        DUE.same("G of a", x.checked("(Ga)"), "31");
        DUE.same("G of two", x.checked("(Gab)"), Session.ARGUMENT + "@3");
        DUE.same("G alone", x.checked("G"), Session.ARGUMENT + "@0");
        DUE.same("no H", x.checked("(Ha)"), Session.ARGUMENT + "@1");
        x.forget();
        DUE.same("G is gone", x.checked("(Ga)"), Session.ARGUMENT + "@1");
    }

    private static void definitions() {
        Session x = new Session();
        DUE.same("empty", x.defined(""), Session.ARGUMENT + "@0");
        DUE.same("an expression", x.defined("1"), Session.ARGUMENT + "@0");
        DUE.same("F", x.defined("Fc*1"), Session.ARGUMENT + "@0");
        DUE.same("J", x.defined("Jc*1"), Session.ARGUMENT + "@0");
        DUE.same("name alone", x.defined("G"), Session.ARGUMENT + "@1");
        DUE.same("input as parameter", x.defined("Ga*1"), Session.ARGUMENT + "@1");
        DUE.same("i as parameter", x.defined("Gi*1"), Session.ARGUMENT + "@1");
        DUE.same("no type", x.defined("Gc"), Session.ARGUMENT + "@2");
        DUE.same("wrong type", x.defined("Gcx1"), Session.ARGUMENT + "@2");
        DUE.same("no expression", x.defined("Gc*"), Session.ARGUMENT + "@3");
        DUE.same("an input in it", x.defined("Gc*a"), Session.ARGUMENT + "@3");
        DUE.same("other input in it", x.defined("Gc*(Nb)"), Session.ARGUMENT + "@5");
        DUE.same("other name in it", x.defined("Gc*d"), Session.ARGUMENT + "@3");
        DUE.same("itself in it", x.defined("Gc*(Gc)"), Session.ARGUMENT + "@4");
        DUE.same("more behind", x.defined("Gc*c1"), Session.ARGUMENT + "@4");
        DUE.same("parameter bound", x.defined("Gc*(:c1c)"), Session.ARGUMENT + "@5");
        DUE.same("none of these is there", x.checked("(Ga)"), Session.ARGUMENT + "@1");
        DUE.same("refused one", x.defined("Gc*(+c1)"), Session.OPERATION + "@3");
        DUE.same("it is not there", x.checked("(Ga)"), Session.ARGUMENT + "@1");
        DUE.same("types: any", x.defined("Gc*c"), "31");
        DUE.same("a second G", x.defined("Gc*c"), Session.ARGUMENT + "@0");
        DUE.same("types: number", x.defined("Hdnd"), "1");
        DUE.same("types: truth", x.defined("Ihbh"), "6");
        DUE.same("a fourth", x.defined("Gc*c"), Session.ARGUMENT + "@0");
        DUE.same("a definition is no expression", x.checked("Gc*c"), Session.ARGUMENT + "@0");
        x.forget();
        DUE.same("types: list", x.defined("Iflf"), "24");
        DUE.same("types: pair", x.defined("Gepe"), "16");
        DUE.same("a function in one", x.defined("Hcp(Gc)"), "16");
        DUE.same("the fault's place in a definition", x.checked("1") + x.define() + x.fault(), "1" + Session.ARGUMENT + "0");
    }
}
