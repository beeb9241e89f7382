/**
 * The edges of promises 4 to 8 and of the terms that say what the checker finds: types at and beside what an
 * operation takes, places at and beyond two letters, views that are and are not quite impossible.
 */
public final class CheckerEdgesTest {
    private static final Due DUE = new Due();
    private static final String ALL = "31 31 31 31 31 31 31";
    private static final String IMPOSSIBLE = "-1 -1 -1 -1 -1 -1 -1";
    private static final String[] PATHS = {"", "A", "D", "AA", "AD", "DA", "DD"};

    public static void main(String[] args) {
        everyType();
        notFalse();
        tests();
        negation();
        halvesOfPairsAlone();
        numbersAlone();
        parameterTypes();
        typeZeroIsWithinAll();
        twoLetters();
        lettersBehindOtherNames();
        functionsOfPlaces();
        eachPathBehindEachPlace();
        theLastKind();
        noneOfAll();
        eitherOfTwo();
        bothOfTwo();
        whatIsNotChecked();
        typesOfBranches();
        ownPlaces();
        theFirstFault();
        faultsInDefinitions();
        noSuchView();
        noneThatWasAccepted();
        nothingIsLeftOfEarlierTexts();
        DUE.end();
    }

    /** A text of any type but 0 that has no place and teaches nothing. */
    private static String of(int type) {
        String text = "";
        String[] kinds = {"(C00)", ".", "~", "#", "0"};
        for (int i = 0; i < kinds.length; i++) {
            if ((type & 16 >> i) != 0) {
                text = text.isEmpty() ? kinds[i] : "(?(<00)" + kinds[i] + text + ")";
            }
        }
        return text;
    }

    private static String wrong(int place) {
        return Session.OPERATION + "@" + place;
    }

    private static String only(int kinds) {
        return kinds + " 31 31 31 31 31 31";
    }

    private static void views(Session x, String text, String yes, String no) {
        DUE.same(text + " IF", x.viewOf(true, 0), yes);
        DUE.same(text + " IFNOT", x.viewOf(false, 0), no);
    }

    private static void check(String text, int type, String yes, String no) {
        Session x = new Session();
        DUE.same(text, x.checked(text), type);
        views(x, text, yes, no);
    }

    private static void everyType() {
        for (int type = 1; type <= 31; type++) {
            Session x = new Session();
            DUE.same("type of " + of(type), x.checked(of(type)), type);
            DUE.same("type of a name for " + of(type), x.checked("(:c" + of(type) + "c)"), type);
            DUE.same("type of a function, " + of(type), x.defined("Gc*" + of(type)), type);
            DUE.same("type of its call, " + of(type), x.checked("(Ga)"), type);
        }
    }

    /** "Where a type has not FALSE, IFNOT is impossible; where it has nothing else, IF is." */
    private static void notFalse() {
        for (int type = 1; type <= 31; type++) {
            String yes = type == 4 ? IMPOSSIBLE : ALL;
            String no = (type & 4) == 0 ? IMPOSSIBLE : ALL;
            check(of(type), type, yes, no);
            check("(:c" + of(type) + "c)", type, yes, no);
            Session x = new Session();
            x.define("Gc*" + of(type));
            x.check("(Ga)");
            views(x, "G, " + of(type), yes, no);
            x.check("(G1)");
            views(x, "G of no place, " + of(type), yes, no);
        }
    }

    /** "TRUE if it is within the test's kinds, FALSE if it has none of them, else both." */
    private static void tests() {
        String tests = "NBEP";
        int[] kinds = {1, 6, 8, 16};
        for (int i = 0; i < kinds.length; i++) {
            for (int type = 1; type <= 31; type++) {
                int want = (type & ~kinds[i]) == 0 ? 2 : (type & kinds[i]) == 0 ? 4 : 6;
                String text = "(" + tests.charAt(i) + of(type) + ")";
                DUE.same(text, new Session().checked(text), want);
            }
            check("(" + tests.charAt(i) + "a)", 6, only(kinds[i]), only(31 - kinds[i]));
        }
    }

    /** "TRUE if e's IFNOT is not impossible, and FALSE if its IF is not." */
    private static void negation() {
        for (int type = 1; type <= 31; type++) {
            int want = ((type & 4) != 0 ? 2 : 0) + ((type & 27) != 0 ? 4 : 0);
            check("(!" + of(type) + ")", want, want == 4 ? IMPOSSIBLE : ALL, want == 2 ? IMPOSSIBLE : ALL);
        }
        check("(!a)", 6, only(4), only(27));
    }

    /** "e's type must be within 16." */
    private static void halvesOfPairsAlone() {
        for (int type = 1; type <= 31; type++) {
            Session x = new Session();
            DUE.same("A of " + type, x.checked("(A" + of(type) + ")"), type == 16 ? "31" : wrong(0));
            DUE.same("D of " + type, x.checked("(D" + of(type) + ")"), type == 16 ? "31" : wrong(0));
            DUE.same("A of a place of " + type, x.checked("(:c" + of(type) + "(Ac))"),
                type == 16 ? "31" : wrong(3 + of(type).length()));
        }
    }

    /** "Both types within 1." */
    private static void numbersAlone() {
        String[] operations = {"+", "-", "<"};
        for (String operation : operations) {
            String result = operation.equals("<") ? "6" : "1";
            for (int type = 1; type <= 31; type++) {
                Session x = new Session();
                String want = type == 1 ? result : wrong(0);
                DUE.same(operation + " first " + type, x.checked("(" + operation + of(type) + "1)"), want);
                DUE.same(operation + " second " + type, x.checked("(" + operation + "1" + of(type) + ")"), want);
            }
        }
        for (int type = 1; type <= 31; type++) {
            DUE.same("C takes all", new Session().checked("(C" + of(type) + "a)"), "16");
        }
    }

    /** "e's type must be within the parameter's." */
    private static void parameterTypes() {
        String letters = "*nblp";
        int[] types = {31, 1, 6, 24, 16};
        for (int i = 0; i < types.length; i++) {
            Session x = new Session();
            x.define("Gc" + letters.charAt(i) + "0");
            for (int type = 1; type <= 31; type++) {
                boolean within = (type & ~types[i]) == 0;
                String name = letters.charAt(i) + " of " + type;
                DUE.same(name, x.checked("(G" + of(type) + ")"), within ? "1" : wrong(0));
                if (type < 31) {
                    DUE.same(name + ", deeper", x.checked("(C1(G" + of(type) + "))"), within ? "16" : wrong(3));
                }
            }
        }
    }

    /** In X c is a number, so that a must be one, but a is a pair: (?c#.) has no type left. */
    private static void typeZeroIsWithinAll() {
        String[] rows = {"(AZ) 0", "(DZ) 0", "(NZ) 0", "(BZ) 0", "(EZ) 0", "(PZ) 0", "(!Z) 0", "(+ZZ) 1", "(-ZZ) 1", "(<ZZ) 6",
            "(CZZ) 16", "(?Z.#) 0", "(&Z.) 0", "(|Z.) 0", "(:dZ.) 0", "(:dZ(A1)) 0", "(GZ) 8", "(HZ) 8"};
        for (String letter : new String[] {"n", "b", "l", "p", "*"}) {
            Session x = new Session();
            x.define("Gd" + letter + ".");
            x.define("Hd*.");
            for (String row : rows) {
                String[] parts = row.split(" ");
                String text = "(:c(?(Na)1~)(?(Nc)(?(Pa)" + parts[0].replace("Z", "(?c#.)") + "~)~))";
                DUE.same(text, x.checked(text), Integer.parseInt(parts[1]) | 4);
            }
        }
        Session x = new Session();
        DUE.same("one kind is too many", x.checked("(:c(?(Na)1~)(?(Nc)(?(Pa)(A(?c#c))~)~))"), "4");
        DUE.same("a kind that is there", x.checked("(:c(?(Na)1~)(?(Nc)(?(Pa)(Ac)~)~))"), wrong(24));
    }

    /** Tests that the place is a pair as far as is needed, then what is said of the whole path. */
    private static String reached(String variable, String path, String behind) {
        String place = variable;
        String text = "";
        for (int i = 0; i < path.length(); i++) {
            text += "(&(P" + place + ")";
            place = "(" + path.charAt(i) + place + ")";
        }
        return text + behind.replace("X", place) + ")".repeat(path.length());
    }

    private static String saying(String path, int kinds) {
        StringBuilder all = new StringBuilder();
        for (String place : PATHS) {
            boolean isAbove = place.length() < path.length() && path.startsWith(place);
            all.append(all.length() == 0 ? "" : " ").append(isAbove ? 16 : place.equals(path) ? kinds : 31);
        }
        return all.toString();
    }

    /** "A variable, with 0, 1 or 2 letters": a third letter reaches no place. */
    private static void twoLetters() {
        for (int input = 0; input < 2; input++) {
            String variable = input == 0 ? "a" : "b";
            for (String path : PATHS) {
                Session x = new Session();
                String text = reached(variable, path, "(NX)");
                DUE.same(text, x.checked(text), "6");
                DUE.same(text + " IF", x.viewOf(true, input), saying(path, 1));
                DUE.same(text + " IF of the other", x.viewOf(true, 1 - input), ALL);
                text = reached(variable, path, "X");
                DUE.same(text, x.checked(text), "31");
                DUE.same(text + " IF", x.viewOf(true, input), saying(path, 27));
                if (path.length() == 2) {
                    aThirdLetter(input, variable, path);
                }
            }
        }
        Session x = new Session();
        String text = reached("a", "AD", "(?(NX)(+X1)2)");
        DUE.same(text, x.checked(text), "5");
        text = "(&(&(Pa)(&(P(Aa))(P(D(Aa)))))(:c(D(Aa))(?(N(Ac))(+(Ac)1)2)))";
        DUE.same(text, x.checked(text), wrong(text.indexOf("(+")));
    }

    private static void aThirdLetter(int input, String variable, String path) {
        Session x = new Session();
        String pair = "(" + path.charAt(1) + "(" + path.charAt(0) + variable + "))";
        for (String letter : new String[] {"A", "D"}) {
            String text = "(&" + reached(variable, path, "(PX)") + "(N(" + letter + pair + ")))";
            DUE.same(text, x.checked(text), "6");
            DUE.same(text + " IF", x.viewOf(true, input), saying(path, 16));
            text = "(&" + reached(variable, path, "(PX)") + "(" + letter + pair + "))";
            DUE.same(text, x.checked(text), "31");
            DUE.same(text + " IF", x.viewOf(true, input), saying(path, 16));
        }
    }

    private static void lettersBehindOtherNames() {
        check("(:ca(&(Pc)(N(Ac))))", 6, "16 1 31 31 31 31 31", ALL);
        check("(&(Pa)(:c(Da)(&(Pc)(E(Dc)))))", 6, "16 31 16 31 31 31 8", ALL);
        check("(&(Pa)(&(P(Da))(:c(A(Da))(Bc))))", 6, "16 31 16 31 31 6 31", ALL);
        check("(&(Pa)(&(P(Da))(:c(A(Da))(&(Pc)(N(Ac))))))", 6, "16 31 16 31 31 16 31", ALL);
        // Of its own places x has as many letters as an input has.
        check("(:c(C1.)(?(&(P(Ac))(N(D(Ac))))(+(D(Ac))1)2))", 1, ALL, IMPOSSIBLE);
        Session x = new Session();
        x.define("Gc*(&(Pc)(&(P(Ac))(P(A(Ac)))))");
        String two = "(:c(C1.)(?(Gc)(?(N(A(Ac)))1(A(A(Ac))))2))";
        DUE.same(two, x.checked(two), "31");
        String three = "(:c(C1.)(?(Gc)(:d(A(Ac))(?(N(Ad))(+(Ad)1)2))3))";
        DUE.same(three, x.checked(three), wrong(three.indexOf("(+")));
    }

    /** "With each place that is e's place and 0, 1 or 2 letters (2 in all)". */
    private static void functionsOfPlaces() {
        Session x = new Session();
        x.define("Gc*(&(Pc)(&(P(Ac))(&(N(D(Ac)))(E(Dc)))))");
        String[] places = {"a", "(Aa)", "(Da)", "(A(Aa))", "(D(Da))"};
        String[] before = {"(!(!X))", "(&(Pa)X)", "(&(Pa)X)", "(&(Pa)(&(P(Aa))X))", "(&(Pa)(&(P(Da))X))"};
        String[] yes = {"16 16 8 31 1 31 31", "16 16 31 16 8 31 31", "16 31 16 31 31 16 8", "16 16 31 16 31 31 31",
            "16 31 16 31 31 31 16"};
        for (int i = 0; i < places.length; i++) {
            String text = before[i].replace("X", "(G" + places[i] + ")");
            DUE.same(text, x.checked(text), "6");
            views(x, text, yes[i], ALL);
        }
        String third = "(&(&(Pa)(&(P(Aa))(P(A(Aa)))))(G(D(A(Aa)))))";
        DUE.same("no place", x.checked(third), "6");
        views(x, third, "16 16 31 16 31 31 31", ALL);
        // IFNOT goes the same way.
        x.define("Hc*(?(Pc)(!(N(Ac)))#)");
        x.check("(Ha)");
        views(x, "(Ha)", ALL, "16 1 31 31 31 31 31");
        x.check("(?(Pa)(H(Aa))#)");
        views(x, "(H(Aa))", ALL, "16 16 31 1 31 31 31");
        x.check("(?(Pa)(?(P(Aa))(H(A(Aa)))#)#)");
        views(x, "(H(A(Aa)))", ALL, "16 16 31 16 31 31 31");
        x.check("(H(|a1))");
        views(x, "H of no place", ALL, ALL);
    }

    /** Of what a function says of its parameter with letters, only what is within two letters in all is taken over. */
    private static void eachPathBehindEachPlace() {
        for (String path : PATHS) {
            Session x = new Session();
            x.define("Gc*" + reached("c", path, "(NX)"));
            for (String place : PATHS) {
                String text = reached("a", place, "(GX)");
                DUE.same(path + ": " + text, x.checked(text), "6");
                DUE.same(path + ": " + text + " IF", x.viewOf(true, 0), saying(place + path, 1));
                DUE.same(path + ": " + text + " IF of b", x.viewOf(true, 1), ALL);
                text = text.replace('a', 'b');
                DUE.same(path + ": " + text, x.checked(text), "6");
                DUE.same(path + ": " + text + " IF", x.viewOf(true, 1), saying(place + path, 1));
                DUE.same(path + ": " + text + " IF of a", x.viewOf(true, 0), ALL);
            }
        }
    }

    /** A place that has one kind left is possible; with none left its view is not. */
    private static void theLastKind() {
        check("(&(Ba)a)", 6, only(2), only(29));
        check("(&(Ba)(&a(!a)))", 4, IMPOSSIBLE, ALL);
        check("(&(!(Na))(&(!(Ba))(!(Ea))))", 6, only(16), only(15));
        check("(&(!(Na))(&(!(Ba))(&(!(Ea))(!(Pa)))))", 4, IMPOSSIBLE, ALL);
        check("(&(Na)(Na))", 6, only(1), only(30));
        check("(&(Na)(Pa))", 4, IMPOSSIBLE, ALL);
        check("(?(Na)(?(Pa)(A1)2)3)", 1, ALL, IMPOSSIBLE);
        DUE.same("two kinds are too many", new Session().checked("(?(|(Na)(Pa))(?(Pa)(Aa)(A1))3)"), wrong(23));
        DUE.same("one kind is not", new Session().checked("(?(|(Na)(Pa))(?(Pa)(Aa)(+a1))3)"), "31");
    }

    /** "Then it says none of all": of both inputs, with all letters. */
    private static void noneOfAll() {
        Session x = new Session();
        x.check("(&(Pb)(&(N(Ab))(P(Ab))))");
        DUE.same("IF of a", x.viewOf(true, 0), IMPOSSIBLE);
        DUE.same("IF of b", x.viewOf(true, 1), IMPOSSIBLE);
        DUE.same("IFNOT of a", x.viewOf(false, 0), ALL);
        DUE.same("IFNOT of b", x.viewOf(false, 1), ALL);
        x.check("(!(&(Pb)(&(N(Ab))(P(Ab)))))");
        DUE.same("the other way round", x.viewOf(true, 1) + x.viewOf(false, 0) + x.viewOf(false, 1),
            ALL + IMPOSSIBLE + IMPOSSIBLE);
    }

    /** "If one is impossible, it is the other one." */
    private static void eitherOfTwo() {
        check("(?(Nb)(Na)(Pa))", 6, only(17), ALL);
        check("(?(Nb)(Na)~)", 6, only(1), ALL);
        check("(?(Nb)~(Na))", 6, only(1), ALL);
        check("(?(Nb)(Na)#)", 6, ALL, only(30));
        check("(?(Nb)#(Na))", 6, ALL, only(30));
        check("(?(Nb)~~)", 4, IMPOSSIBLE, ALL);
        check("(|(Na)~)", 6, only(1), only(30));
        check("(|~(Na))", 6, only(1), only(30));
        check("(|(Na)#)", 2, ALL, IMPOSSIBLE);
        check("(&(Na)#)", 6, only(1), only(30));
        check("(&#(Na))", 6, only(1), only(30));
        check("(&~#)", 4, IMPOSSIBLE, ALL);
    }

    /** A name remembers: what its value says and what is known already must both be so. */
    private static void bothOfTwo() {
        check("(:c(Na)(?(|(Na)(Pa))c#))", 6, only(15), only(16));
        check("(:c(Na)(&(|(Na)(Pa))c))", 6, only(1), only(30));
        check("(:c(Na)(&(Pa)c))", 6, IMPOSSIBLE, ALL);
        check("(:c(Na)(&(Pa)(?c(A1)(Aa))))", 31, "16 27 31 31 31 31 31", ALL);
        check("(:c(|(Na)1)(&c(Na)))", 6, only(1), only(30));
        // Where a is a pair, c still has the type 6, but it can't be TRUE.
        check("(:c(Na)(?(Pa)c1))", 7, only(15), only(16));
        check("(:c(Na)(?(Pa)(!c)1))", 3, ALL, IMPOSSIBLE);
        check("(:c(Na)(?(Pa)(|c1)1))", 3, ALL, IMPOSSIBLE);
        check("(:c(Na)(?(Pa)(&c(A1))1))", 5, only(15), only(16));
        check("(:c(Na)(?(Pa)(?c(A1).)1))", 9, ALL, IMPOSSIBLE);
    }

    /** An expression in an impossible view is not checked; it is where the view is not. */
    private static void whatIsNotChecked() {
        String[] rows = {"(?#1(A1)) (?a1(A1))", "(?~(A1)1) (?a(A1)1)", "(&~(A1)) (&a(A1))", "(|1(A1)) (|a(A1))",
            "(?(N1)1(A1)) (?(Na)1(A1))", "(?(N.)(A1)1) (?(Na)(A1)1)", "(?(!1)(A1)1) (?(!a)(A1)1)",
            "(?(Na)(?(Pa)(A1)1)1) (?(Na)(?(Pb)(A1)1)1)", "(&#(&~(+1#))) (&#(&b(+1#)))"};
        for (String row : rows) {
            String[] texts = row.split(" ");
            String accepted = new Session().checked(texts[0]);
            DUE.same(texts[0] + " is accepted", accepted.equals("1") || accepted.equals("4"), true);
            int place = Math.max(texts[1].indexOf("(A1)"), texts[1].indexOf("(+1#)"));
            DUE.same(texts[1], new Session().checked(texts[1]), wrong(place));
        }
        DUE.same("it must be an expression", new Session().checked("(?#1(A1)"), Session.ARGUMENT + "@8");
        Session x = new Session();
        DUE.same("in a definition", x.defined("Gcn(?(Nc)1(A1))"), "1");
        DUE.same("in a definition where it is", x.defined("Hc*(?(Nc)1(A1))"), wrong(10));
    }

    /** What is not checked adds nothing to a type. */
    private static void typesOfBranches() {
        check("(?a1#)", 3, ALL, IMPOSSIBLE);
        check("(?#1#)", 1, ALL, IMPOSSIBLE);
        check("(?~1#)", 2, ALL, IMPOSSIBLE);
        check("(&a1)", 5, only(27), only(4));
        check("(&#1)", 1, ALL, IMPOSSIBLE);
        check("(&~1)", 4, IMPOSSIBLE, ALL);
        check("(|a1)", 27, ALL, IMPOSSIBLE);
        check("(|#1)", 2, ALL, IMPOSSIBLE);
        check("(|~1)", 1, ALL, IMPOSSIBLE);
        check("(|~~)", 4, IMPOSSIBLE, ALL);
    }

    /** "Its place, too, unless that begins with a place of x's own." */
    private static void ownPlaces() {
        check("(N(:c1a))", 6, only(1), only(30));
        check("(N(:cac))", 6, only(1), only(30));
        check("(N(:c(|a1)c))", 6, ALL, ALL);
        check("(N(:c(|a1)(:dcd)))", 6, ALL, ALL);
        check("(N(:c(C1.)(Ac)))", 6, ALL, ALL);
        check("(&(Pa)(N(:c(Aa)c)))", 6, "16 1 31 31 31 31 31", ALL);
        check("(&(Pa)(N(:c1(:d(Aa)d))))", 6, "16 1 31 31 31 31 31", ALL);
        // 31 where a letter is behind it, whatever its value's halves are.
        DUE.same("halves of a name", new Session().checked("(:c(C12)(Ac))"), "31");
        DUE.same("halves of a name, no number", new Session().checked("(:c(C12)(+1(Dc)))"), wrong(8));
    }

    /** "In the order of checking the first one"; "operands are checked before their types are looked at". */
    private static void theFirstFault() {
        String[] rows = {"(A1) 0", "(N(A1)) 2", "(A(A1)) 2", "(+#~) 0", "(+#(A1)) 3", "(+(A1)#) 2", "(+(A1)(D1)) 2",
            "(-(+11)(+1#)) 7", "(<(C11)(+11)) 0", "(?(A1)(A2)(A3)) 2", "(?a(A2)(A3)) 3", "(?a1(A3)) 4", "(&a(A2)) 3",
            "(|(A1)(A2)) 2", "(:c(A1)(A2)) 3", "(:c1(Ac)) 4", "(C(C1(A1))(A2)) 5", "(!(!(!(!(!(A1)))))) 10"};
        for (String row : rows) {
            String[] parts = row.split(" ");
            DUE.same(parts[0], new Session().checked(parts[0]), wrong(Integer.parseInt(parts[1])));
        }
        Session x = new Session();
        x.define("Gcn1");
        DUE.same("an operand before its function", x.checked("(G(A1))"), wrong(2));
        DUE.same("a function before what takes its value", x.checked("(A(G#))"), wrong(2));
        DUE.same("what takes its value", x.checked("(A(G1))"), wrong(0));
        String last = "(?(?(?111)(?111)(?111))(?(?111)(?111)1)(?(?111)(?111)(A11)))";
        DUE.same("no fault of a text that is none", x.checked(last), Session.ARGUMENT + "@56");
        last = "(C(?(?a11)(?111)(?111))(C(?(?111)(?11a)1)(C(?111)(C(A.)1))))";
        DUE.same("the last operation of 60 characters", last.length() + x.checked(last), "60" + wrong(last.indexOf("(A.)")));
    }

    /** The place is that of the text, of which the expression is not the beginning. */
    private static void faultsInDefinitions() {
        Session x = new Session();
        DUE.same("the first place", x.defined("Gc*(Ac)"), wrong(3));
        DUE.same("there is no such function", x.checked("(G1)"), Session.ARGUMENT + "@1");
        DUE.same("within", x.defined("Gcl(?(Pc)(Dc)(Ac))"), wrong(13));
        DUE.same("there is none still", x.checked("(G1)"), Session.ARGUMENT + "@1");
        DUE.same("its name is free", x.defined("Gcl(?(Pc)(Dc)c)"), "31");
        DUE.same("there is one", x.checked("(G.)"), "31");
    }

    /** "No such input or place": -1, 0, 1, 2 and -1, 0, 6, 7. */
    private static void noSuchView() {
        Session x = new Session();
        x.check("(Na)");
        for (int letters : new int[] {Integer.MIN_VALUE, -7, -1, 7, 8, 14, Integer.MAX_VALUE}) {
            DUE.same("letters " + letters, x.view(true, 0, letters), Session.INDEX);
            DUE.same("letters of b " + letters, x.view(false, 1, letters), Session.INDEX);
        }
        for (int input : new int[] {Integer.MIN_VALUE, -1, 2, 3, Integer.MAX_VALUE}) {
            DUE.same("input " + input, x.view(true, input, 0), Session.INDEX);
            DUE.same("input " + input + ", last letters", x.view(false, input, 6), Session.INDEX);
        }
        DUE.same("first", x.view(true, 0, 0) + " " + x.view(false, 0, 0), "1 30");
        DUE.same("last", x.view(true, 1, 6) + " " + x.view(false, 1, 6), "31 31");
        DUE.same("they are there still", x.viewOf(true, 0) + ", " + x.viewOf(false, 0), only(1) + ", " + only(30));
        x.check("1");
        DUE.same("of an impossible one", x.view(false, 2, 0) + x.view(false, 0, 7), Session.INDEX + Session.INDEX);
        DUE.same("an impossible one", x.view(false, 0, 0) + x.view(false, 1, 6), "-1-1");
    }

    /** NoSuchElementException "if there is none that was accepted", whatever is asked. */
    private static void noneThatWasAccepted() {
        Session x = new Session();
        DUE.same("a new object", x.view(true, 0, 0) + x.view(false, 2, 7), Session.ELEMENT.repeat(2));
        x.check("(Aa");
        DUE.same("no expression", x.view(true, 0, 0) + x.view(false, 2, 7), Session.ELEMENT.repeat(2));
        x.define("Gc*(Nc)");
        DUE.same("a definition", x.view(true, 0, 0), Session.ELEMENT);
        x.check("(Aa)");
        DUE.same("a refused one", x.view(true, 0, 0) + x.view(true, -1, -1), Session.ELEMENT.repeat(2));
        x.check("(Ga)");
        DUE.same("an accepted one", x.view(true, 0, 0), "1");
        x.check("(Aa)");
        DUE.same("a refused one behind it", x.view(true, 0, 0), Session.ELEMENT);
        x.check("(Na");
        DUE.same("no expression behind it", x.view(true, 0, 0), Session.ELEMENT);
        x.check("(Pa)");
        x.check("(Na");
        DUE.same("no expression behind an accepted one", x.view(true, 0, 0), "16");
        x.forget();
        DUE.same("forgotten", x.view(true, 0, 0) + x.view(true, 2, 0), Session.ELEMENT.repeat(2));
    }

    private static String found(Session x, String text) {
        return x.checked(text) + " " + x.viewOf(true, 0) + " " + x.viewOf(false, 0) + " " + x.viewOf(true, 1) + " "
            + x.viewOf(false, 1);
    }

    /** What is found of a text is the same whatever was checked or defined before it. */
    private static void nothingIsLeftOfEarlierTexts() {
        String[] texts = {"a", "b", "~", "(!a)", "(N(!a))", "(N(?a#~))", "(N(&a#))", "(N(|a~))", "(N(Cab))", "(N(<11))",
            "(N(:c1c))", "(:ca(:dc(:ed(:fe(:gf(:hgh))))))", "(:cb(:dc(:ed(:fe(:gf(:hgh))))))", "(?~a~)", "(?#~a)", "(&~a)", "(|#a)",
            "(?~(Na)(Na))", "(?(Pa)(&(P(Aa))(N(D(Aa))))(Nb))", "(:c(Na)(?c(+a1)0))", "(:c1(:d#(:e.(?(Nc)d~))))", "(+a1)", "(A(A1))",
            "(:c(?(Na)1~)(?(Nc)(?(Pb)(:e(:d(?c#.)a)(Ne))~)~))", "(:c(?(Na)1~)(?(Nc)(?(Pa)(:e(:d(?c#.)a)(A1))~)~))"};
        for (String text : texts) {
            String alone = found(new Session(), text);
            for (String before : texts) {
                Session x = new Session();
                x.check(before);
                DUE.same(text + " behind " + before, found(x, text), alone);
                x.define("Gc*" + before.replace('c', 'g').replace('a', 'c').replace('b', 'c'));
                DUE.same(text + " behind a definition like " + before, found(x, text), alone);
            }
        }
    }
}
