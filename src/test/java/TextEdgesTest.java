/**
 * The edges of promises 1 to 6 and of the terms that say what a text, an expression and a definition are:
 * each at the case itself, at the last one before it and at the first one behind it.
 */
public final class TextEdgesTest {
    private static final Due DUE = new Due();
    private static final String SIXTY = "(?(?(?111)(?111)(?111))(?(?111)(?111)1)(?(?111)(?111)(+11)))";
    private static final String OPERATIONS = "NBEP!ADC+-<?&|:";
    /** Behind all characters that mean something. */
    private static final int CHARACTERS = 300;

    public static void main(String[] args) {
        sixtyCharacters();
        textsOfSixtyCharacters();
        everyCharacterIsTaken();
        wiping();
        noBlanks();
        constants();
        operations();
        numbersOfParts();
        sixBracketsInEachPart();
        sixBracketsInDefinitions();
        bracketsOfFunctionsAreTheirOwn();
        namesThatMayBeBound();
        namesInScope();
        noNameLeft();
        functionsThatThereAre();
        namesOfFunctions();
        parameters();
        parameterTypes();
        whereADefinitionStops();
        prefixes();
        ofAnyLength();
        theLatestFault();
        DUE.end();
    }

    private static String none(int place) {
        return Session.ARGUMENT + "@" + place;
    }

    private static boolean isExpression(Session x, String text) {
        return !x.check(text).equals(Session.ARGUMENT);
    }

    /** "The text has at most 60 characters", "false, refused, if there are 60". */
    private static void sixtyCharacters() {
        Session x = new Session();
        for (int i = 1; i <= 59; i++) {
            DUE.same("character " + i, x.type('('), true);
        }
        DUE.same("character 60", x.type(')'), true);
        DUE.same("character 61", x.type(')'), false);
        DUE.same("character 61 again", x.type('\0'), false);
        DUE.same("character 61, the largest", x.type('\uffff'), false);
        DUE.same("character 61, after check", x.check() + x.type('1'), Session.ARGUMENT + "false");
        DUE.same("character 61, after define", x.define() + x.type('1'), Session.ARGUMENT + "false");
        x.forget();
        x.clear();
        DUE.same("character 61, after forget and clear", x.type('1'), false);
    }

    private static void textsOfSixtyCharacters() {
        Session x = new Session();
        String fiftyNine = SIXTY.replace("(+11)", "(!1)");
        String sixtyOne = SIXTY.replace("(+11)", "(!(!1))").replace("(?111)1)", "(?1111)");
        DUE.same("lengths", fiftyNine.length() + " " + SIXTY.length(), "59 60");
        DUE.same("59 characters", x.checked(fiftyNine), "1");
        DUE.same("one more", x.type(')') + x.check() + x.fault(), "true" + Session.ARGUMENT + 59);
        DUE.same("60 characters", x.checked(SIXTY), "1");
        DUE.same("what is refused is no part of it", x.type(')') + x.check() + x.fault(), "false1-1");
        String longer = SIXTY.replace("(+11)", "(?111)");
        DUE.same("61 characters", longer.length() + x.checked(longer), "61" + none(60));
        DUE.same("the wrong one comes first", x.checked(sixtyOne), none(36));
        String definition = "Gc*(?(?(?111)(?111)(?111))(?(?111)(?111)1)(?(?111)(?11c)1))";
        DUE.same("a definition of 59", definition.length() + x.defined(definition), "591");
        definition = definition.replace("G", "H").replace("11c)1", "11c)12");
        DUE.same("60, one too many", definition.length() + x.defined(definition), "60" + none(57));
        definition = definition.replace("(?11c)12", "(?11c)(!c)");
        DUE.same("a definition of 62", definition.length() + x.defined(definition), "62" + none(60));
        definition = definition.replace("(!c)", "c").replace("Hc*(?(?(?111)", "Hc*(?(?(!(!1))");
        DUE.same("a definition of 60", definition.length() + x.defined(definition), "601");
    }

    private static void everyCharacterIsTaken() {
        Session x = new Session();
        int taken = 0;
        for (int c = 0; c <= Character.MAX_VALUE; c++) {
            if (c % 60 == 0) {
                x.wipe();
            }
            taken += x.type((char) c) ? 1 : 0;
        }
        DUE.same("characters that are taken", taken, 65536);
    }

    /** "The text is empty": of an empty one, of one character, of a full one. */
    private static void wiping() {
        Session x = new Session();
        x.wipe();
        DUE.same("an empty one", x.check() + x.fault(), Session.ARGUMENT + 0);
        x.type('7');
        DUE.same("a character", x.check(), "1");
        x.wipe();
        DUE.same("no character", x.check() + x.fault() + x.define() + x.fault(), (Session.ARGUMENT + 0).repeat(2));
        x.text(SIXTY);
        DUE.same("a full one", x.type('1'), false);
        x.wipe();
        for (int i = 0; i < 60; i++) {
            DUE.same("after wipe, " + i, x.type('~'), true);
        }
        DUE.same("full again", x.type('~'), false);
    }

    private static void noBlanks() {
        Session x = new Session();
        String text = "(?(Na)(:c1(+ac))0)";
        DUE.same("without blanks", x.checked(text), "1");
        for (int i = 0; i <= text.length(); i++) {
            DUE.same("blank at " + i, x.checked(text.substring(0, i) + " " + text.substring(i)), none(i));
        }
        String definition = "Gcn(+c1)";
        for (int i = 0; i <= definition.length(); i++) {
            String blank = definition.substring(0, i) + " " + definition.substring(i);
            DUE.same("blank in a definition at " + i, x.defined(blank), none(i));
        }
        DUE.same("a definition without blanks", x.defined(definition), "1");
    }

    /** Each with the character before it and the one behind it. */
    private static void constants() {
        Session x = new Session();
        String[] rows = {"0 1 3", "9 1 12", "# 2 0", "~ 4 1", ". 8 2"};
        for (String row : rows) {
            String[] parts = row.split(" ");
            DUE.same("type of " + parts[0], x.checked(parts[0]), parts[1]);
            DUE.same("value of " + parts[0], x.ran(1), "1 1 " + parts[2] + " 13");
        }
        for (String other : new String[] {"/", ":", "\"", "$", "}", "\u007f", "-", "`", "c", "\0", "\u00ff", "\uffff"}) {
            DUE.same("no expression " + other, x.checked(other), none(0));
        }
        DUE.same("input a", x.checked("a"), "31");
        DUE.same("input b", x.checked("b"), "31");
        DUE.same("input c in brackets", x.checked("(Nc)"), none(2));
        DUE.same("one constant more", x.checked("00"), none(1));
    }

    /** What may stand behind a bracket: these, and the functions that there are. */
    private static void operations() {
        Session x = new Session();
        for (int c = 0; c < CHARACTERS; c++) {
            int place = OPERATIONS.indexOf(c) >= 0 ? 2 : 1;
            DUE.same("operation " + c, x.checked("(" + (char) c), none(place));
        }
        x.define("Gc*c");
        x.define("Hc*c");
        x.define("Ic*c");
        for (int c = 0; c < CHARACTERS; c++) {
            int place = (OPERATIONS + "GHI").indexOf(c) >= 0 ? 2 : 1;
            DUE.same("operation or function " + c, x.checked("(" + (char) c), none(place));
        }
    }

    /** One part too few, as many as it has, one too many. */
    private static void numbersOfParts() {
        Session x = new Session();
        x.define("Gc*c");
        String[] rows = {"N1", "B1", "E1", "P1", "!1", "A1", "D1", "G1", "C2", "+2", "-2", "<2", "&2", "|2", "?3", ":2"};
        for (String row : rows) {
            String before = "(" + row.charAt(0) + (row.charAt(0) == ':' ? "c" : "");
            int parts = row.charAt(1) - '0';
            for (int i = 0; i < parts; i++) {
                String some = before + "5".repeat(i);
                DUE.same(some, x.checked(some), none(some.length()));
                DUE.same(some + ")", x.checked(some + ")"), none(some.length()));
            }
            String all = before + "5".repeat(parts);
            DUE.same(all, x.checked(all), none(all.length()));
            DUE.same(all + ")", isExpression(x, all + ")"), true);
            DUE.same(all + "5)", x.checked(all + "5)"), none(all.length()));
            DUE.same(all + "))", x.checked(all + "))"), none(all.length() + 1));
        }
    }

    private static String negations(int brackets) {
        return "(!".repeat(brackets) + "1" + ")".repeat(brackets);
    }

    /** "At most 6 brackets in one another": 5, 6 and 7 of them, by each part of each operation. */
    private static void sixBracketsInEachPart() {
        Session x = new Session();
        x.define("Gc*c");
        String[] rows = {"(N.)", "(B.)", "(E.)", "(P.)", "(!.)", "(A.)", "(D.)", "(G.)", "(C.1)", "(C1.)", "(+.1)", "(+1.)",
            "(-.1)", "(-1.)", "(<.1)", "(<1.)", "(&.1)", "(&1.)", "(|.1)", "(|1.)", "(?.11)", "(?1.1)", "(?11.)", "(:c.1)",
            "(:c1.)"};
        for (String row : rows) {
            int part = row.indexOf('.');
            DUE.same("5 in " + row, isExpression(x, row.replace(".", negations(4))), true);
            DUE.same("6 in " + row, isExpression(x, row.replace(".", negations(5))), true);
            DUE.same("7 in " + row, x.checked(row.replace(".", negations(6))), none(part + 10));
            DUE.same("8 in " + row, x.checked(row.replace(".", negations(7))), none(part + 10));
        }
        DUE.same("6 and no more", x.checked("(!(!(!(!(!(!"), none(12));
        DUE.same("the 7th alone", x.checked("(!(!(!(!(!(!("), none(12));
        DUE.same("6 beside 6", x.checked("(C" + negations(5) + negations(5) + ")"), "16");
        DUE.same("6 beside 7", x.checked("(C" + negations(5) + negations(6) + ")"), none(28));
    }

    private static void sixBracketsInDefinitions() {
        Session x = new Session();
        DUE.same("7 in a definition", x.defined("Gc*" + negations(7)), none(15));
        DUE.same("6 in a definition", x.defined("Gc*" + negations(6)), "2");
        DUE.same("5 in a definition", x.defined("Hc*" + negations(5)), "4");
    }

    /** A function is called in the sixth bracket, and has six of its own: 24 stand open at once. */
    private static void bracketsOfFunctionsAreTheirOwn() {
        Session x = new Session();
        DUE.same("G", x.defined("Gc*(!(!(!(!(!(!c))))))"), "6");
        DUE.same("H", x.defined("Hd*(!(!(!(!(!(Gd))))))"), "6");
        DUE.same("I", x.defined("Ih*(!(!(!(!(!(Hh))))))"), "6");
        DUE.same("6 brackets", x.checked("(!(!(!(!(!(Ia))))))"), "6");
        DUE.same("27 of 28 steps", x.ran(27), "0 27 -1 13");
        DUE.same("28 steps", x.ran(28), "1 28 1 13");
        x.input(0, 1);
        DUE.same("of FALSE", x.ran(1000), "1 28 0 13");
        DUE.same("7 brackets", x.checked("(!(!(!(!(!(!(Ia)))))))"), none(12));
    }

    /** "One of c .. h". */
    private static void namesThatMayBeBound() {
        Session x = new Session();
        for (int c = 0; c < CHARACTERS; c++) {
            int place = c >= 'c' && c <= 'h' ? 3 : 2;
            DUE.same("name " + c, x.checked("(:" + (char) c), none(place));
        }
        for (char c = 'c'; c <= 'h'; c++) {
            DUE.same("bound " + c, x.checked("(:" + c + "1" + c + ")"), "1");
        }
    }

    /** "That is not in scope": in f, and neither in e nor behind the bracket. */
    private static void namesInScope() {
        Session x = new Session();
        DUE.same("in f", x.checked("(:c1(Nc))"), "2");
        DUE.same("in e", x.checked("(:c(Nc)1)"), none(5));
        DUE.same("behind", x.checked("(C(:c1c)(Nc))"), none(10));
        DUE.same("in f, bound again", x.checked("(:c1(:c1c))"), none(6));
        DUE.same("deep in f, bound again", x.checked("(:c1(:d1(!(:c1c))))"), none(12));
        DUE.same("in e, bound", x.checked("(:c(:c1(Nc))(Bc))"), "2");
        DUE.same("behind, bound", x.checked("(C(:c1c)(:c1c))"), "16");
        DUE.same("behind a bound one in f", x.checked("(:c1(C(:d1d)(:d1c)))"), "16");
        DUE.same("another name in f", x.checked("(:c1(Nd))"), none(6));
        DUE.same("the inputs in f", x.checked("(:c1(Cab))"), "16");
        DUE.same("a parameter, bound again", x.defined("Gc*(:c1c)"), none(5));
        DUE.same("a parameter in e and f", x.defined("Gc*(:d(Nc)(Ccd))"), "16");
        DUE.same("a parameter, behind its definition", x.checked("c"), none(0));
        DUE.same("its name may be bound", x.checked("(:c1(Gc))"), "16");
    }

    /** The parameter and five names are all there are; without a parameter six brackets bind six. */
    private static void noNameLeft() {
        Session x = new Session();
        String four = "Gc*(:d1(:e1(:f1(:g1";
        DUE.same("the last name", x.defined(four + "(:h1h)))))"), "1");
        x.forget();
        DUE.same("the last name, bracket 6 of another sort", x.defined(four + "(:h1(!h))))))"), "4");
        x.forget();
        DUE.same("none left, bracket 6", x.defined(four + "(:h1("), none(24));
        DUE.same("none left, bracket 6 with :", x.defined(four + "(:h1(:"), none(24));
        DUE.same("one left in e", x.defined(four + "(:h(:h1h)h)))))"), "1");
        x.forget();
        DUE.same("one left behind", x.defined(four + "(C(:h1h)(:h1h)))))" + ")"), "16");
        String six = "(:c1(:d1(:e1(:f1(:g1(:h1";
        DUE.same("six names", x.checked(six + "h))))))"), "1");
        DUE.same("no bracket left", x.checked(six + "("), none(24));
    }

    /** "A function that there is": before it is defined, behind that, and behind forget. */
    private static void functionsThatThereAre() {
        for (String name : new String[] {"G", "H", "I"}) {
            Session x = new Session();
            DUE.same("not yet " + name, x.checked("(" + name + "1)"), none(1));
            DUE.same("in itself " + name, x.defined(name + "c*(" + name + "c)"), none(4));
            DUE.same("defined " + name, x.defined(name + "c*c"), "31");
            DUE.same("there is " + name, x.checked("(" + name + "1)"), "31");
            for (String other : new String[] {"F", "G", "H", "I", "J"}) {
                if (!other.equals(name)) {
                    DUE.same("there is no " + other, x.checked("(" + other + "1)"), none(1));
                }
            }
            x.forget();
            DUE.same("forgotten " + name, x.checked("(" + name + "1)"), none(1));
            DUE.same("defined again " + name, x.defined(name + "c*1"), "1");
            DUE.same("there is again " + name, x.checked("(" + name + "a)"), "1");
        }
        Session x = new Session();
        DUE.same("H before G", x.defined("Hc*(Gc)"), none(4));
        x.define("Gc*(Nc)");
        DUE.same("H behind G", x.defined("Hc*(Gc)"), "6");
        DUE.same("I behind both", x.defined("Ic*(C(Gc)(Hc))"), "16");
    }

    /** "The name of a function that there is not yet (G, H, I)". */
    private static void namesOfFunctions() {
        Session x = new Session();
        for (int c = 0; c < CHARACTERS; c++) {
            int place = c >= 'G' && c <= 'I' ? 1 : 0;
            DUE.same("name " + c, x.defined(String.valueOf((char) c)), none(place));
        }
        x.define("Hc*1");
        DUE.same("there is H", x.defined("H"), none(0));
        DUE.same("there is H, a whole definition", x.defined("Hc*#"), none(0));
        DUE.same("the first H stays", x.checked("(H~)"), "1");
        DUE.same("G is free", x.defined("Gc*(Hc)"), "1");
        DUE.same("I is free", x.defined("Ic*#"), "2");
        for (String name : new String[] {"F", "G", "H", "I", "J"}) {
            DUE.same("no name is left " + name, x.defined(name + "c*c"), none(0));
        }
        DUE.same("all stay", x.check("(Ga)") + x.check("(Ha)") + x.check("(Ia)"), "112");
        x.forget();
        DUE.same("all are free", x.define("Gc*~") + x.define("Hc*~") + x.define("Ic*~"), "444");
    }

    /** "Its parameter (c .. h)". */
    private static void parameters() {
        for (int c = 0; c < CHARACTERS; c++) {
            boolean is = c >= 'c' && c <= 'h';
            DUE.same("parameter " + c, new Session().defined("G" + (char) c), none(is ? 2 : 1));
            String definition = "G" + (char) c + "*" + (char) c;
            DUE.same("with parameter " + c, new Session().defined(definition), is ? "31" : none(1));
        }
        Session x = new Session();
        DUE.same("it alone is in scope: a", x.defined("Gc*a"), none(3));
        DUE.same("it alone is in scope: b", x.defined("Gc*(Cbc)"), none(5));
        DUE.same("it alone is in scope: d", x.defined("Gc*(Ccd)"), none(6));
        DUE.same("it need not be used", x.defined("Gc*1"), "1");
    }

    /** "* any, n 1, b 6, l 24, p 16". */
    private static void parameterTypes() {
        for (int c = 0; c < CHARACTERS; c++) {
            int i = "*nblp".indexOf(c);
            String want = i < 0 ? none(2) : String.valueOf(new int[] {31, 1, 6, 24, 16}[i]);
            DUE.same("parameter's type " + c, new Session().defined("Gc" + (char) c + "c"), want);
        }
    }

    private static void whereADefinitionStops() {
        Session x = new Session();
        DUE.same("empty", x.defined(""), none(0));
        DUE.same("an expression", x.defined("(Na)"), none(0));
        DUE.same("the name", x.defined("G"), none(1));
        DUE.same("the parameter", x.defined("Gc"), none(2));
        DUE.same("the type", x.defined("Gc*"), none(3));
        DUE.same("a bracket", x.defined("Gc*("), none(4));
        DUE.same("no end", x.defined("Gc*(Nc"), none(6));
        DUE.same("a definition is no expression", x.checked("Gc*(Nc)"), none(0));
        DUE.same("more than one", x.defined("Gc*(Nc)1"), none(7));
        DUE.same("there is no such function", x.checked("(Ga)"), none(1));
        DUE.same("as it should be", x.defined("Gc*(Nc)"), "6");
    }

    /** Where a text can go on, its fault is its end; where a character is none that can follow, it is there. */
    private static void prefixes() {
        Session x = new Session();
        x.define("Gc*c");
        String[] texts = {"7", "(Na)", "(?(Na)(+a1)0)", "(:c(C1.)(?(N(Ac))(-(Ac)b)~))", "(|(&(Pa)(Ga))(!(<12)))",
            "(!(!(!(!(!(!~))))))", SIXTY, "(:c1(:d2(:e3(:f4(:g5(:h6h))))))"};
        for (String text : texts) {
            DUE.same(text, isExpression(x, text), true);
            for (int i = 0; i < text.length(); i++) {
                String begin = text.substring(0, i);
                DUE.same(begin, x.checked(begin), none(i));
                DUE.same(begin + " and a wrong one", x.checked(begin + "\0" + text.substring(i)), none(i));
            }
        }
        String definition = "He*(:c(Ge)(?(Pc)(Ac)(|e#)))";
        for (int i = 0; i < definition.length(); i++) {
            String begin = definition.substring(0, i);
            DUE.same(begin, x.defined(begin), none(i));
            DUE.same(begin + " and a wrong one", x.defined(begin + "\0" + definition.substring(i)), none(i));
        }
        DUE.same(definition, x.defined(definition), "31");
    }

    /** A text that no expression of 60 characters begins with may still be the beginning of a longer one. */
    private static void ofAnyLength() {
        Session x = new Session();
        String open = "(?".repeat(6) + "1".repeat(2);
        DUE.same("14 characters", x.checked(open), none(14));
        String full = "(?(?(?(?(?(?111)(?111)(?111))(?(?111)(?111)(?111))(?(?111)(?1";
        DUE.same("60 of 61", full.length() + x.checked(full), "61" + none(60));
        DUE.same("59", x.checked(full.substring(0, 59)), none(59));
        DUE.same("a wrong 60th", x.checked(full.substring(0, 59) + ")"), none(59));
        DUE.same("a wrong first", x.checked(")" + full), none(0));
        String definition = "Gc*" + full;
        DUE.same("a definition", x.defined(definition), none(60));
        DUE.same("a definition's wrong 60th", x.defined(definition.substring(0, 59) + "a"), none(59));
    }

    /** "-1 if it did not throw, or there was none". */
    private static void theLatestFault() {
        Session x = new Session();
        DUE.same("there was none", x.fault(), -1);
        x.text("(A1");
        x.number(5);
        DUE.same("still none", x.fault(), -1);
        x.check();
        DUE.same("the end of the text", x.fault(), 3);
        x.type(')');
        x.wipe();
        x.forget();
        x.clear();
        x.run(-1);
        x.view(true, 9, 9);
        DUE.same("others leave it", x.fault(), 3);
        DUE.same("of define", x.define("Gc*(+1(Dc))") + x.fault(), Session.OPERATION + 6);
        DUE.same("check did not throw", x.check("1") + x.fault(), "1-1");
        DUE.same("of check", x.check("(C1(D1))") + x.fault(), Session.OPERATION + 3);
        DUE.same("define did not throw", x.define("Gc*c") + x.fault(), "31-1");
        DUE.same("the first place", x.check("(D1)") + x.fault(), Session.OPERATION + 0);
        DUE.same("of define, the first place", x.define("Gc*c") + x.fault(), Session.ARGUMENT + 0);
    }
}
