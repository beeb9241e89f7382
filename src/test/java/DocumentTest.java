/**
 * The document from its first line to its last: each sentence, in its order, with calls that would be answered
 * otherwise if it did not hold. The other tests ask further; this one leaves no sentence out.
 */
public final class DocumentTest {
    private static final Due DUE = new Due();
    private static final String NONE = "impossible";
    private static final String[] PATHS = {"", "A", "D", "AA", "AD", "DA", "DD"};
    /** In its Z, (?c#.) has the type 0: c is a number, so that a must be one, but a is a pair. */
    private static final String TYPE_ZERO = "(:c(?(Na)1~)(?(Nc)(?(Pa)Z3)4))";

    public static void main(String[] args) {
        whatItIs();
        kindsAndTypes();
        theText();
        constantsAndVariables();
        operations();
        branchesAndNames();
        definitions();
        places();
        views();
        whatTheCheckerFinds();
        checkedVariables();
        checkedTests();
        checkedHalves();
        checkedPairsAndNumbers();
        checkedBranches();
        checkedNames();
        whereANamesPlaceEnds();
        checkedFunctions();
        cellsOfTheMachine();
        stepsOfTheMachine();
        failuresOfTheMachine();
        promises1To3();
        promise4();
        promise5();
        promise6();
        promises7And8();
        promises9And10();
        promises11And12();
        promises13To15();
        promises16And17();
        DUE.end();
    }

    /** What a view says of both inputs, but for the places of which it says 31. */
    private static String told(Session x, boolean yes) {
        StringBuilder all = new StringBuilder();
        int none = 0;
        for (int k = 0; k < 14; k++) {
            String kinds = x.view(yes, k / 7, k % 7);
            none += kinds.equals("-1") ? 1 : 0;
            if (!kinds.equals("31")) {
                all.append(all.length() == 0 ? "" : " ").append("ab".charAt(k / 7)).append(PATHS[k % 7]).append(kinds);
            }
        }
        return none == 14 ? NONE : all.toString();
    }

    private static void accepts(Session x, String text, int type, String yes, String no) {
        DUE.same("type of " + text, x.checked(text), type);
        DUE.same("IF of " + text, told(x, true), yes);
        DUE.same("IFNOT of " + text, told(x, false), no);
    }

    private static void accepts(String text, int type, String yes, String no) {
        accepts(new Session(), text, type, yes, no);
    }

    private static void refuses(Session x, String text, int place) {
        DUE.same(text, x.checked(text), Session.OPERATION + "@" + place);
    }

    private static void refuses(String text, int place) {
        refuses(new Session(), text, place);
    }

    private static void isNone(Session x, String text, int place) {
        DUE.same(text, x.checked(text), Session.ARGUMENT + "@" + place);
    }

    private static void isNone(String text, int place) {
        isNone(new Session(), text, place);
    }

    private static void hasTypeZero(String part, int type) {
        String text = TYPE_ZERO.replace("Z", part);
        DUE.same(text, new Session().checked(text), type | 1);
    }

    private static String cell(Session x, int i) {
        return x.cell(i, 0) + " " + x.cell(i, 1) + " " + x.cell(i, 2) + " " + x.cell(i, 3);
    }

    private static String value(Session x, String text) {
        x.check(text);
        String ending = x.run(1000);
        return ending.equals("1") ? x.written(x.result()) : "ended with " + ending;
    }

    private static void is(String text, String want) {
        DUE.same("value of " + text, value(new Session(), text), want);
    }

    private static void ran(Session x, String text, String want) {
        x.check(text);
        DUE.same("run of " + text, x.ran(1000), want);
    }

    /** "What the checker accepts never applies an operation where it means nothing." */
    private static void whatItIs() {
        Session x = new Session();
        x.define("Gc*(&(Pc)(N(Ac)))");
        x.pair(5, 2);
        x.pair(2, 13);
        String[] texts = {"(?(Na)(+a1)0)", "(?(Pa)(Aa)(?(Pb)(Db)0))", "(&(Ga)(-(Aa)1))", "(:c(Ga)(?c(<(Aa)1)~))",
            "(|(&(&(Na)(Nb))(<ab))#)", "(?(|(Na)(!(Pb)))1(Ab))", "(&(&(Na)(Nb))(+ab))"};
        for (String text : texts) {
            DUE.same(text + " is accepted", x.check(text).length() < 3, true);
            for (int k = 0; k < 15 * 15; k++) {
                x.input(0, k / 15);
                x.input(1, k % 15);
                DUE.same(text + " of " + k / 15 + " and " + k % 15, x.run(1000), "1");
            }
        }
        DUE.same("what is not accepted may be run", x.check("(+a1)") + x.run(9), Session.OPERATION + "2");
    }

    private static void kindsAndTypes() {
        // A KIND is 1 NUMBER, 2 TRUE, 4 FALSE, 8 EMPTY, 16 PAIR;
        Session x = new Session();
        DUE.same("kinds", x.check("7") + x.check("#") + x.check("~") + x.check(".") + x.check("(C12)"), "124816");
        // a TYPE is a sum of different kinds.
        DUE.same("two kinds", x.check("(?a7.)"), "9");
        DUE.same("the same kind twice", x.check("(?a78)"), "1");
        DUE.same("all kinds", x.check("a"), "31");
    }

    private static void theText() {
        // THE TEXT has at most 60 characters;
        Session x = new Session();
        DUE.same("60", x.text("1".repeat(59)).type('1'), true);
        DUE.same("61", x.text("1".repeat(60)).type('1'), false);
        // no blanks;
        isNone("(N 1)", 2);
        isNone(" 1", 0);
        isNone("1 ", 1);
        // at most 6 brackets in one another
        DUE.same("6 brackets", x.checked("(!(!(!(!(!(!1))))))"), "2");
        isNone("(!(!(!(!(!(!(!1)))))))", 12);
        DUE.same("beside one another", x.checked("(C(C(C1(!1))(!1))(C(!1)(C(!1)(!1))))"), "16");
    }

    private static void constantsAndVariables() {
        // a digit, that number; # TRUE; ~ FALSE; . EMPTY;
        for (int i = 0; i < 10; i++) {
            is(String.valueOf(i), String.valueOf(i));
        }
        is("#", "#");
        is("~", "~");
        is(".", ".");
        // a VARIABLE that is in scope
        isNone("c", 0);
        is("(:c5c)", "5");
        // or in brackets
        isNone("N1", 0);
        isNone("(N1", 3);
        isNone("(1)", 1);
        isNone("(N1))", 4);
    }

    private static void operations() {
        // N, B, E, P and e: a test, whether it is a number; TRUE or FALSE; EMPTY; a pair.
        String[] values = {"4", "#", "~", ".", "(C12)"};
        String[] answers = {"#~~~", "~#~~", "~#~~", "~~#~", "~~~#"};
        for (int i = 0; i < values.length; i++) {
            Session x = new Session();
            String got = value(x, "(N" + values[i] + ")") + value(x, "(B" + values[i] + ")") + value(x, "(E" + values[i] + ")")
                + value(x, "(P" + values[i] + ")");
            DUE.same("tests of " + values[i], got, answers[i]);
            // ! e: whether it is FALSE.
            is("(!" + values[i] + ")", values[i].equals("~") ? "#" : "~");
        }
        // A e, D e: the first, the second half of a pair. C e f: a pair.
        is("(C5#)", "(5 #)");
        is("(A(C5#))", "5");
        is("(D(C5#))", "#");
        // + e f, - e f, < e f: sum, difference (both wrap), whether the first is less.
        is("(+75)", "12");
        is("(-57)", "-2");
        is("(<57)", "#");
        is("(<75)", "~");
        is("(<55)", "~");
        Session x = new Session();
        x.number(Integer.MAX_VALUE);
        x.number(Integer.MIN_VALUE);
        x.input(0, 13);
        x.input(1, 14);
        DUE.same("the sum wraps", value(x, "(+a1)"), "-2147483648");
        DUE.same("the difference wraps", value(x, "(-b1)"), "2147483647");
        DUE.same("less", value(x, "(<ba)") + value(x, "(<ab)"), "#~");
    }

    private static void branchesAndNames() {
        // ? e f g: f, if e is not FALSE, else g.
        // & e f: f, if e is not FALSE, else FALSE.
        // | e f: e, if that is not FALSE, else f.
        String[] values = {"0", "#", "."};
        for (String e : values) {
            is("(?" + e + "56)", "5");
            is("(&" + e + "5)", "5");
            is("(|" + e + "5)", e);
        }
        is("(?~56)", "6");
        is("(&~5)", "~");
        is("(&5~)", "~");
        is("(|~5)", "5");
        is("(|~~)", "~");
        // : x e f: f, in which x is what e is; x is one of c .. h that is not in scope.
        is("(:c(+12)(Cc(+c1)))", "(3 4)");
        is("(:c1(:d2(Cdc)))", "(2 1)");
        is("(:h(:h4(+h1))(C(:g(+h1)g)h))", "(6 5)");
        isNone("(:b11)", 2);
        isNone("(:i11)", 2);
        isNone("(:c1(:c22))", 6);
        isNone("(:ccc)", 3);
        isNone("(C(:c1c)c)", 8);
        // G e, H e, I e: a FUNCTION that there is, of what e is.
        isNone("(G1)", 1);
        Session x = new Session();
        x.define("Gc*(Cc1)");
        x.define("Hc*(C2(Gc))");
        x.define("Ic*(C(Hc)3)");
        DUE.same("G", value(x, "(G(+45))"), "(9 1)");
        DUE.same("H", value(x, "(H.)"), "(2 (. 1))");
        DUE.same("I", value(x, "(I~)"), "((2 (~ 1)) 3)");
        isNone(x, "(J1)", 1);
        x.input(0, 12);
        DUE.same("its parameter is its own", value(x, "(:c8(C(G7)(Cac)))"), "((7 1) (9 8))");
    }

    private static String defined(String text) {
        return new Session().defined(text);
    }

    private static void definitions() {
        // A DEFINITION is the name of a function that there is not yet (G, H, I),
        DUE.same("G, H, I", defined("Gc*1") + defined("Hc*1") + defined("Ic*1"), "111");
        DUE.same("J", defined("Jc*1"), Session.ARGUMENT + "@0");
        Session x = new Session();
        DUE.same("there is one", x.defined("Gc*1") + x.defined("Gc*1"), "1" + Session.ARGUMENT + "@0");
        DUE.same("itself", x.defined("Hc*(Hc)"), Session.ARGUMENT + "@4");
        // its parameter (c .. h),
        DUE.same("b", defined("Gb*1"), Session.ARGUMENT + "@1");
        DUE.same("c, h", defined("Gc*c") + defined("Gh*h"), "3131");
        DUE.same("i", defined("Gi*1"), Session.ARGUMENT + "@1");
        // the type that this must have (* any, n 1, b 6, l 24, p 16),
        DUE.same("types", defined("Gc*c") + defined("Gcnc") + defined("Gcbc") + defined("Gclc") + defined("Gcpc"), "31162416");
        DUE.same("no type", defined("Gc1"), Session.ARGUMENT + "@2");
        // and an expression, in which the parameter alone is in scope.
        DUE.same("no expression", defined("Gc*"), Session.ARGUMENT + "@3");
        DUE.same("two expressions", defined("Gc*cc"), Session.ARGUMENT + "@4");
        DUE.same("others", defined("Gc*a") + defined("Gc*b") + defined("Gc*d"), (Session.ARGUMENT + "@3").repeat(3));
        // In other expressions the INPUTS a and b are.
        DUE.same("inputs", x.check("(Cab)"), "16");
        isNone("(Cac)", 3);
    }

    private static void places() {
        // A PLACE is a variable, with 0, 1 or 2 letters A, D behind it: what is reached by these halves.
        accepts("(Nb)", 6, "b1", "b30");
        accepts("(&(Pa)(N(Da)))", 6, "a16 aD1", "");
        accepts("(&(Pb)(&(P(Ab))(N(D(Ab)))))", 6, "b16 bA16 bAD1", "");
        accepts("(&(Pb)(&(P(Db))(N(A(Db)))))", 6, "b16 bD16 bDA1", "");
        accepts("(&(&(Pa)(&(P(Da))(P(D(Da)))))(N(A(D(Da)))))", 6, "a16 aD16 aDD16", "");
        // The machine reaches the same.
        is("(:c(C(C12)(C34))(C(D(Ac))(A(Dc))))", "(2 3)");
    }

    private static void views() {
        // A VIEW says for each place of which kinds it may be;
        accepts("(|(Na)(Pa))", 6, "a17", "a14");
        // it is IMPOSSIBLE if it says none for some place (then it says none of all).
        accepts("(&(Na)(&(Nb)(Pa)))", 4, NONE, "");
        // To RESTRICT a place to some kinds leaves the others out there;
        accepts("(&(!(Na))(&(!(Ea))(Bb)))", 6, "a22 b6", "");
        // both of two views: the kinds of both, for each place;
        accepts("(:c(&(!(Na))(Pb))(&(!(Ea))c))", 6, "a22 b16", "");
        // either of two: those of one or the other, for each place
        accepts("(?(Eb)(&(Na)(N.))(&(Ba)#))", 6, "a6 b23", "");
        accepts("(?(Eb)(Na)(Ba))", 6, "a7", "");
        // (if one is impossible, it is the other one).
        accepts("(?(Eb)(Na)~)", 6, "a1 b8", "");
        accepts("(?(Eb)~(Na))", 6, "a1 b23", "");
        // Where a is a pair, c can't be TRUE, by whichever way.
        accepts("(:c(Na)(&(Pa)(?bcc)))", 6, NONE, "");
        accepts("(:c(Na)(&(Pa)(|cc)))", 6, NONE, "");
        accepts("(:c(Na)(&(Pa)(!(?bcc))))", 6, "a16", "a15");
    }

    private static void whatTheCheckerFinds() {
        // its type, perhaps its place, and two views: IF (what is, if it is not FALSE) and IFNOT (if it is FALSE).
        accepts("a", 31, "a27", "a4");
        // Where a type has not FALSE, IFNOT is impossible, whatever is said below;
        accepts("(?(Na)1.)", 9, "", NONE);
        accepts("(:c(Na)2)", 1, "", NONE);
        // where it has nothing else, IF is.
        accepts("~", 4, NONE, "");
        accepts("(&(Na)~)", 4, NONE, "");
        // An expression that would be checked in an impossible view is not checked:
        accepts("(?~(A1)#)", 2, "", NONE);
        accepts("(?(Na)(&(Pa)(+a#))#)", 6, "a30", "a1");
        refuses("(?(Na)(&(Pb)(+a#))#)", 12);
        // its type is 0, and IF and IFNOT are impossible.
        accepts("(?~a#)", 2, "", NONE);
        accepts("(?#(Nb)a)", 6, "b1", "b30");
        accepts("(|1a)", 1, "", NONE);
        // It has no place either: e is no name for a, and (A1) is not checked.
        hasTypeZero("(:e(:d(?c#.)a)(A1))", 0);
    }

    private static void checkedVariables() {
        // Digits, #, ~, . : their kind; IF and IFNOT are V.
        accepts("(&(Na)5)", 5, "a1", "a30");
        accepts("(&(Na)#)", 6, "a1", "a30");
        accepts("(&(Na).)", 12, "a1", "a30");
        accepts("(|(Na)~)", 6, "a1", "a30");
        // A variable: its place;
        accepts("(Pb)", 6, "b16", "b15");
        // the type is what V says of this;
        accepts("(&(Ea)a)", 12, "a8", "a23");
        // IF: V, the place restricted to all but FALSE; IFNOT: V, it restricted to FALSE;
        accepts("b", 31, "b27", "b4");
        accepts("(?(Ba)a~)", 6, "a2", "a29");
        // for one of : that has a place of its own also what it remembers.
        accepts("(:c(Na)c)", 6, "a1", "a30");
        accepts("(:c(!a)(?(Nb)cb))", 30, "b27", "b5");
    }

    private static void checkedTests() {
        // Tests: 0 if the type of e is 0, TRUE if it is within the test's kinds, FALSE if it has none of them, else both;
        hasTypeZero("(N(?c#.))", 0);
        accepts("(N4)", 2, "", NONE);
        accepts("(B#)", 2, "", NONE);
        accepts("(E4)", 4, NONE, "");
        accepts("(P(?a1(C12)))", 6, "", "");
        // IF and IFNOT: V, with e's place (if it has one) restricted to the test's kinds, or to all others.
        accepts("(Na)", 6, "a1", "a30");
        accepts("(Ba)", 6, "a6", "a25");
        accepts("(Ea)", 6, "a8", "a23");
        accepts("(Pa)", 6, "a16", "a15");
        accepts("(N(|a1))", 6, "", "");
        accepts("(B(Na))", 2, "", NONE);
        // !: TRUE if e's IFNOT is not impossible, and FALSE if its IF is not;
        accepts("(!5)", 4, NONE, "");
        accepts("(!~)", 2, "", NONE);
        accepts("(:c(Na)(?(Na)(!c)~))", 4, NONE, "");
        hasTypeZero("(!c)", 0);
        // its IF is e's IFNOT, and the other way round.
        accepts("(!(Na))", 6, "a30", "a1");
    }

    private static void checkedHalves() {
        // A, D: e's type must be within 16.
        refuses("(Aa)", 0);
        refuses("(C1(D.))", 3);
        // Its place is e's place and that letter, if that has at most 1 letter;
        accepts("(&(Pa)(E(Aa)))", 6, "a16 aA8", "");
        accepts("(&(Pa)(&(P(Aa))(E(D(Aa)))))", 6, "a16 aA16 aAD8", "");
        accepts("(&(&(Pa)(&(P(Aa))(P(A(Aa)))))(A(A(Aa))))", 31, "a16 aA16 aAA16", "");
        // the type is what V says of that,
        accepts("(&(Pa)(&(N(Aa))(Aa)))", 5, "a16 aA1", "");
        // else 31
        accepts("(A(C12))", 31, "", "");
        // (0 if e's type is 0);
        hasTypeZero("(A(?c#.))", 0);
        hasTypeZero("(D(?c#.))", 0);
        // IF and IFNOT as with a variable
        accepts("(?(Pa)(Aa)~)", 31, "a16 aA27", "");
        accepts("(?(Pa)(Da)#)", 31, "", "a16 aD4");
        // (V, if there is no place).
        accepts("(&(Nb)(D(Cab)))", 31, "b1", "");
        // Where b is not FALSE, what A is of has the type 0: that is forgotten again.
        accepts("(:c(?(Na)1~)(?(&(Nc)(Pa))(?(A(?b(?c#.)(C12)))b1)3))", 31, "", "a16 b4");
    }

    private static void checkedPairsAndNumbers() {
        // C: 16;
        accepts("(Ca~)", 16, "", NONE);
        hasTypeZero("(C(?c#.)1)", 16);
        // +, -: 1, both types within 1;
        accepts("(+12)", 1, "", NONE);
        accepts("(-12)", 1, "", NONE);
        refuses("(+a1)", 0);
        refuses("(+1a)", 0);
        refuses("(-#1)", 0);
        refuses("(-1.)", 0);
        hasTypeZero("(+(?c#.)1)", 1);
        // <: TRUE and FALSE, both types within 1;
        accepts("(<12)", 6, "", "");
        refuses("(<~1)", 0);
        refuses("(<1(C11))", 0);
        hasTypeZero("(<(?c#.)1)", 6);
        // IF and IFNOT are V.
        accepts("(&(Na)(<a1))", 6, "a1", "");
        accepts("(&(Na)(C(Nb)b))", 20, "a1", "a30");
        refuses("(C(Na)(+a1))", 6);
    }

    private static void checkedBranches() {
        // ?: f is checked in e's IF, g in e's IFNOT;
        accepts("(?(Na)(+a1)0)", 1, "", NONE);
        refuses("(?(Na)0(+a1))", 7);
        accepts("(?(!(Na))0(+a1))", 1, "", NONE);
        // the types of f and g together;
        accepts("(?a5.)", 9, "", NONE);
        // IF is either of their IFs, IFNOT either of their IFNOTs.
        accepts("(?(Pb)(Na)(Ea))", 6, "a9", "");
        accepts("(?(Pb)(!(Na))(!(Ea)))", 6, "", "a9");
        // &: as ? e f ~.
        accepts("(&(Na)(Nb))", 6, "a1 b1", "");
        accepts("(?(Na)(Nb)~)", 6, "a1 b1", "");
        accepts("(&(Na)(+a1))", 5, "a1", "a30");
        accepts("(&#a)", 31, "a27", "a4");
        accepts("(&#.)", 8, "", NONE);
        accepts("(:c(Na)(?(Na)(&c5).))", 9, "", NONE);
        // |: f is checked in e's IFNOT;
        accepts("(|(!(Na))(+a1))", 3, "", NONE);
        refuses("(|(Na)(+a1))", 6);
        // the type is e's without FALSE, and f's;
        accepts("(|a5)", 27, "", NONE);
        accepts("(|(Na).)", 10, "", NONE);
        // IF: either of e's IF and f's IF; IFNOT: f's IFNOT.
        accepts("(|(Na)(&(Pb)(Ea)))", 6, "a9", "a30");
        // These have no place.
        accepts("(N(?aaa))", 6, "", "");
        accepts("(N(&aa))", 6, "", "");
        accepts("(N(|aa))", 6, "", "");
    }

    private static void checkedNames() {
        // : if e has a place, x is another name for that.
        accepts("(:ca(Nc))", 6, "a1", "a30");
        accepts("(&(Pa)(:c(Da)(E(?(Pc)(Ac).))))", 6, "a16", "");
        accepts("(&(Pa)(:c(Da)(&(Pc)(E(Ac)))))", 6, "a16 aD16 aDA8", "");
        // Else x is a place of its own, of which V says e's type
        accepts("(:c(|b5)(?(Nc)(+c1)c))", 27, "", NONE);
        refuses("(:c(|b5)(+c1))", 8);
        accepts("(:c~(&c(A1)))", 4, NONE, "");
        // (31 where a letter is behind it),
        accepts("(:c(C12)(Ac))", 31, "", "");
        accepts("(:c(C12)(?(N(Dc))(+(Dc)1)0))", 1, "", NONE);
        // and x remembers e's IF and IFNOT:
        accepts("(:c(Na)(?c(+a1)0))", 1, "", NONE);
        accepts("(:c(!(Na))(?c0(+a1)))", 1, "", NONE);
        // the IF of the expression x is both of V, restricted as said, and the remembered IF, IFNOT likewise.
        accepts("(:c(Na)(?(Pb)cb))", 15, "b27", "b20");
        accepts("(:c(Na)(?(Pa)c1))", 7, "a15", "a16");
        accepts("(:c(|(Na)(Pa))(?(Na)(?cc(A1))~))", 6, "a1", "a30");
        // The expression x alone: neither its halves, nor another name, nor f itself.
        accepts("(:c(&(Na)(Cab))(&(Pc)(Ac)))", 31, "", "");
        accepts("(:c(Na)(:dcd))", 6, "", "");
        accepts("(:c(Na)(?(Bc)#~))", 2, "", NONE);
        refuses("(:c(Na)(+a1))", 7);
    }

    private static void whereANamesPlaceEnds() {
        // Type and views are those of f;
        accepts("(:c1b)", 31, "b27", "b4");
        accepts("(:c(Na)(Ec))", 4, NONE, "");
        // its place, too,
        accepts("(N(:c1b))", 6, "b1", "b30");
        accepts("(&(Pa)(N(:ca(Dc))))", 6, "a16 aD1", "");
        // unless that begins with a place of x's own.
        accepts("(:d(:c(Na)c)d)", 6, "a1", "a30");
        // A name that is free again is another place then.
        accepts("(:c(:d(Na)d)(:d1(?cd~)))", 5, "a1", "a30");
        Session x = new Session();
        x.define("Gc*(&(Pc)(&(P(Ac))(N(A(Ac)))))");
        accepts(x, "(:d(:c(C12)(Ac))(?(Gd)(+(A(Ad))1)0))", 1, "", NONE);
        refuses(x, "(:c(C12)(:d(Ac)(?(Gd)(+(A(Ad))1)0)))", 21);
    }

    private static void checkedFunctions() {
        Session x = new Session();
        // A function: e's type must be within the parameter's.
        x.define("Gcl(?(Ec)1c)");
        refuses(x, "(Ga)", 0);
        refuses(x, "(C1(G2))", 3);
        // Its type is that of its expression, checked in the view that says the parameter's type of the parameter, and 31 else;
        accepts(x, "(G.)", 17, "", NONE);
        DUE.same("a half of the parameter", x.defined("Hcp(Ac)"), "31");
        // IF and IFNOT: V, with each place that is e's place and 0, 1 or 2 letters (2 in all) restricted to what the
        // IF (IFNOT) of that expression says of the parameter with these letters;
        DUE.same("I", x.defined("Ic*(&(Pc)(&(N(Dc))(&(P(Ac))(E(D(Ac))))))"), "6");
        accepts(x, "(Ib)", 6, "b16 bA16 bD1 bAD8", "");
        accepts(x, "(&(Pb)(I(Db)))", 6, "b16 bD16 bDA16 bDD1", "");
        accepts(x, "(&(Pb)(&(P(Db))(I(A(Db)))))", 6, "b16 bD16 bDA16", "");
        refuses(x, "(I(A1))", 2);
        accepts(x, "(&(Pa)(Ha))", 31, "a16 aA27", "");
        x.forget();
        x.define("Gc*(!(Nc))");
        accepts(x, "(&(Pb)(G(Ab)))", 6, "b16 bA30", "");
        accepts(x, "(|(!(Pb))(G(Ab)))", 6, "", "b16 bA1");
        // if e has no place: V.
        accepts(x, "(&(Nb)(G(|a1)))", 6, "b1", "");
        // It has no place.
        x.define("Hc*c");
        DUE.same("H of the type 0", x.checked(TYPE_ZERO.replace("Z", "(H(?c#.))")), "31");
        accepts(x, "(H(Na))", 31, "", "");
        accepts(x, "(:c(Na)(Hc))", 31, "", "");
        accepts(x, "(N(Ha))", 6, "", "");
        accepts(x, "(Ha)", 31, "a27", "a4");
    }

    private static void cellsOfTheMachine() {
        // THE MACHINE has 64 CELLS: TRUE (0), FALSE (1), EMPTY (2), the numbers 0 .. 9 (3 .. 12);
        Session x = new Session();
        DUE.same("TRUE, FALSE, EMPTY", cell(x, 0) + ", " + cell(x, 1) + ", " + cell(x, 2), "2 0 -1 -1, 4 0 -1 -1, 8 0 -1 -1");
        for (int i = 0; i < 10; i++) {
            DUE.same("number " + i, cell(x, 3 + i), "1 " + i + " -1 -1");
        }
        // the others are made, in their order: numbers and pairs.
        DUE.same("made", x.number(70) + x.pair(13, 2) + x.number(71), "131415");
        ran(x, "(C(+12)(-12))", "1 7 18 19");
        DUE.same("of a run", cell(x, 16) + ", " + cell(x, 17) + ", " + cell(x, 18), "1 3 -1 -1, 1 -1 -1 -1, 16 0 16 17");
        // Cells made by the run before are gone when a run begins.
        ran(x, "(C12)", "1 3 16 17");
        DUE.same("gone", x.ran(0), "0 0 -1 16");
    }

    private static void stepsOfTheMachine() {
        Session x = new Session();
        // A RUN goes over the expression as one reads it: what is needed, first e, then f.
        ran(x, "(C(+12)(C34))", "1 7 15 16");
        DUE.same("first e, then f", cell(x, 13) + ", " + cell(x, 14), "1 3 -1 -1, 16 0 6 7");
        ran(x, "(C(A.)(+#1))", "2 3 -1 13");
        ran(x, "(?#(C12)(A.))", "1 5 13 14");
        ran(x, "(?~(A.)(C12))", "1 5 13 14");
        ran(x, "(|3(A.))", "1 2 6 13");
        // Each expression that it begins is a STEP
        ran(x, "3", "1 1 6 13");
        ran(x, "(!(N3))", "1 3 1 13");
        ran(x, "(:c(N3)(!c))", "1 5 1 13");
        // (that of a function, too;
        x.define("Gc*(!c)");
        ran(x, "(G3)", "1 4 1 13");
        // & begins none for its FALSE).
        ran(x, "(&~3)", "1 2 1 13");
        ran(x, "(&3~)", "1 3 1 13");
    }

    private static void failuresOfTheMachine() {
        Session x = new Session();
        // It FAILS if an operation is applied to something else than it is for (A, D to pairs; +, -, < to numbers;
        for (String e : new String[] {"5", "#", "~", ".", "(C12)"}) {
            boolean isPair = e.length() > 1;
            boolean isNumber = e.equals("5");
            DUE.same("A of " + e, value(x, "(A" + e + ")"), isPair ? "1" : "ended with 2");
            DUE.same("D of " + e, value(x, "(D" + e + ")"), isPair ? "2" : "ended with 2");
            DUE.same("+ of " + e, value(x, "(+" + e + "1)"), isNumber ? "6" : "ended with 2");
            DUE.same("- with " + e, value(x, "(-1" + e + ")"), isNumber ? "-4" : "ended with 2");
            DUE.same("< of " + e, value(x, "(<" + e + "1)"), isNumber ? "~" : "ended with 2");
            DUE.same("< with " + e, value(x, "(<1" + e + ")"), isNumber ? "#" : "ended with 2");
        }
        Session y = new Session();
        y.define("Gcnc");
        DUE.same("a function is no operation", y.check("(G#)") + y.run(9) + y.result(), Session.OPERATION + "10");
        // all operands are there first),
        ran(x, "(+#(C12))", "2 5 -1 14");
        ran(x, "(+#(A1))", "2 4 -1 13");
        // or if a 65th cell would be made (each +, -, C makes one).
        x.define("Gc*(C(C(Ccc)(Ccc))(C(Ccc)(Ccc)))");
        x.define("Hc*(C(C(Gc)(Gc))(C(Gc)(Gc)))");
        ran(x, "(C(H1)(G1))", "1 91 51 52");
        x.define("Ic*(C(C(Hc)(Gc))(C(Gc)c))");
        ran(x, "(C(I1)(C2(C34)))", "1 119 63 64");
        for (String e : new String[] {"(C1(C23))", "(+1(+23))", "(-1(-23))"}) {
            ran(x, "(C(I1)" + e + ")", "1 119 63 64");
            ran(x, "(C(C(I1)" + e + ")1)", "3 121 -1 64");
        }
        ran(x, "(<(:c(C(I1)(C1(C23)))1)2)", "1 123 0 64");
    }

    private static void promises1To3() {
        Session x = new Session();
        // An empty text, no functions, nothing checked; the inputs are EMPTY; no cells are made.
        DUE.same("an empty text", x.check() + x.fault() + x.define() + x.fault(), (Session.ARGUMENT + 0).repeat(2));
        isNone("(G1)", 1);
        isNone("(H1)", 1);
        isNone("(I1)", 1);
        DUE.same("nothing checked", new Session().fault() + x.run(5) + x.view(true, 0, 0), "-1" + Session.ELEMENT.repeat(2));
        is("(Cab)", "(. .)");
        DUE.same("no cells", x.count() + x.cell(13, 0), 13 + Session.INDEX);
        // A character more at the end of the text; false, refused, if there are 60.
        DUE.same("a character more", x.type('(') + "" + x.type('N') + x.type('3') + x.type(')') + x.check(), "truetruetruetrue2");
        x.text("(N3)".repeat(15));
        DUE.same("refused", x.type(')') + x.check() + x.fault(), "false" + Session.ARGUMENT + 4);
        // The text is empty.
        x.wipe();
        DUE.same("wiped", x.check() + x.fault() + x.type('#') + x.check(), Session.ARGUMENT + "0true2");
    }

    private static void promise4() {
        Session x = new Session();
        // Reads the text as a definition and checks it: the type of its expression.
        DUE.same("its type", x.defined("Gcp(C(Ac).)"), "16");
        // IllegalArgumentException if it is none;
        DUE.same("none", x.defined("(C12)") + x.defined("Hc*(C1"), Session.ARGUMENT + "@0" + Session.ARGUMENT + "@6");
        // UnsupportedOperationException if the checker does not accept it.
        DUE.same("not accepted", x.defined("Hcl(C(Ac).)"), Session.OPERATION + "@5");
        // (If it throws, there is no such function.)
        isNone(x, "(H.)", 1);
        DUE.same("it may be defined", x.defined("Hcl(C1.)") + x.checked("(H.)"), "1616");
    }

    private static void promise5() {
        Session x = new Session();
        // Reads the text as an expression, which is the one at hand then,
        DUE.same("at hand", x.check("5") + x.run(9) + x.result(), "118");
        DUE.same("another", x.check("6") + x.run(9) + x.result(), "119");
        // and checks it in the view that says 31 of all: its type.
        DUE.same("31 of all", x.check("(C(?(Pa)(Aa)b)b)") + x.check("(?(Pa)(Aa)b)"), "1631");
        // IllegalArgumentException if it is none (that at hand stays);
        DUE.same("none", x.check("7") + x.check("(N"), "1" + Session.ARGUMENT);
        DUE.same("that at hand", x.run(9) + x.result() + x.view(true, 0, 0), "11031");
        // UnsupportedOperationException if the checker does not accept it (it is at hand all the same).
        DUE.same("not accepted", x.check("(C8(+a1))") + x.run(9) + x.steps(), Session.OPERATION + "25");
        x.input(0, 4);
        DUE.same("it has a value", x.run(9) + x.written(x.result()), "1(8 2)");
    }

    private static void promise6() {
        Session x = new Session();
        // the place of the text (its length at its end) with which it is the beginning of no definition or expression
        isNone("(C1", 3);
        isNone("(C1)", 3);
        isNone("(C12)3", 5);
        DUE.same("of a definition", x.defined("Gc*(C1") + x.defined("Gc*(Ca1)"), Session.ARGUMENT + "@6" + Session.ARGUMENT + "@5");
        DUE.same("no name is left", x.defined("Gc*(:d1(:e1(:f1(:g1(:h1(:"), Session.ARGUMENT + "@24");
        // (of any length) any more;
        String open = "(?(?(?(?(?(?123)(?123)(?123))(?(?123)(?123)(?123))(?(?123)(?";
        DUE.same("its length", open.length(), 60);
        isNone(open, 60);
        isNone(open.substring(0, 59) + ")", 59);
        // or where the operation begins, in the order of checking the first one, whose operand has a wrong type
        refuses("(C(C1(+a1))(Aa))", 5);
        refuses("(C(Aa)(C1(+a1)))", 2);
        refuses("(?(Na)(?(Na)(-a1)(Aa))(Da))", 22);
        // (the place of its bracket; operands are checked before their types are looked at).
        refuses("(C1(Aa))", 3);
        refuses("(+#(A1))", 3);
        refuses("(A(A1))", 2);
        refuses("(N(A1))", 2);
        refuses("(!(A1))", 2);
        refuses("(:c(A1)2)", 3);
        refuses("(:c1(A2))", 4);
        // -1 if it did not throw, or there was none.
        DUE.same("there was none", new Session().fault(), -1);
        DUE.same("of check", x.check("(A1)") + x.fault() + x.check("1") + x.fault(), Session.OPERATION + "01-1");
        DUE.same("of define", x.define("Gc") + x.fault() + x.define("Gc*1") + x.fault(), Session.ARGUMENT + "21-1");
    }

    private static void promises7And8() {
        Session x = new Session();
        // NoSuchElementException if there is none that was accepted;
        DUE.same("none", x.view(true, 0, 0) + x.check("(Aa)") + x.view(true, 0, 0),
            Session.ELEMENT + Session.OPERATION + Session.ELEMENT);
        // What the views of the expression at hand (IF if yes, else IFNOT) say of input a (0) or b (1) with letters:
        x.check("(&(Na)(Nb))");
        x.check("(|(Na)(!(Pb)))");
        DUE.same("IF, IFNOT", x.view(true, 0, 0) + " " + x.view(false, 0, 0) + " " + x.view(false, 1, 0), "31 30 16");
        // none (0), A (1), D (2), AA, AD, DA, DD (6);
        x.define("Gc*(&(Pc)(&(N(Ac))(&(P(Dc))(B(A(Dc))))))");
        x.define("Hc*(&(Pc)(&(P(Ac))(&(P(Dc))(E(D(Dc))))))");
        x.define("Ic*(&(Hc)(&(N(A(Ac)))(&(B(D(Ac)))(P(A(Dc))))))");
        x.check("(Ga)");
        DUE.same("letters", x.viewOf(true, 0), "16 1 16 31 31 6 31");
        x.check("(Ib)");
        DUE.same("all letters", x.viewOf(true, 1), "16 16 16 1 6 16 8");
        // -1 if the view is impossible.
        x.check("3");
        DUE.same("impossible", x.view(false, 0, 0) + x.view(false, 1, 6) + x.view(true, 0, 0), "-1-131");
        // IndexOutOfBoundsException if there is no such input or place.
        DUE.same("no such input", x.view(true, -1, 0) + x.view(true, 2, 0), Session.INDEX.repeat(2));
        DUE.same("no such place", x.view(true, 0, -1) + x.view(false, 1, 7), Session.INDEX.repeat(2));
        // All functions are gone; there is no expression at hand.
        x.forget();
        DUE.same("at hand", x.run(5) + x.view(true, 0, 0), Session.ELEMENT.repeat(2));
        DUE.same("functions", x.check("(G1)") + x.check("(H1)") + x.check("(I1)"), Session.ARGUMENT.repeat(3));
    }

    private static void promises9And10() {
        Session x = new Session();
        // A new cell, a number;
        DUE.same("a number", x.number(-8) + ": " + cell(x, 13), "13: 1 -8 -1 -1");
        // A new cell, a pair of two cells;
        DUE.same("a pair", x.pair(13, 0) + ": " + cell(x, 14), "14: 16 0 13 0");
        // those made by a run are gone.
        ran(x, "(C(C12)3)", "1 5 16 17");
        DUE.same("behind a run", x.number(9) + " " + x.count(), "15 16");
        ran(x, "(C(C12)3)", "1 5 17 18");
        DUE.same("a pair behind a run", x.pair(1, 2) + " " + x.count(), "16 17");
        // IllegalArgumentException if there is no such cell (one of a run is none);
        ran(x, "(C12)", "1 3 17 18");
        DUE.same("no such cell", x.pair(-1, 0) + x.pair(0, 18) + x.pair(17, 0) + x.pair(0, 17), Session.ARGUMENT.repeat(4));
        // IllegalStateException if 40 are made.
        for (int i = 4; i < 39; i++) {
            x.number(i);
        }
        DUE.same("the 40th", x.pair(51, 51), "52");
        DUE.same("the 41st", x.number(1) + x.pair(0, 0), Session.STATE.repeat(2));
    }

    private static void promises11And12() {
        Session x = new Session();
        x.number(50);
        // Input a (0) or b (1) is a cell.
        DUE.same("inputs", x.input(0, 13) + x.input(1, 0) + value(x, "(Cab)"), Session.DONE.repeat(2) + "(50 #)");
        // IndexOutOfBoundsException if there is no such input;
        DUE.same("no such input", x.input(-1, 0) + x.input(2, 0), Session.INDEX.repeat(2));
        // IllegalArgumentException if there is no such cell (one of a run is none).
        DUE.same("a run's cell", x.result() + x.input(0, 14) + x.input(1, -1), 14 + Session.ARGUMENT.repeat(2));
        DUE.same("they are as they were", value(x, "(Cab)"), "(50 #)");
        // No cells are made, the inputs are EMPTY.
        x.clear();
        DUE.same("no cells", x.count() + x.cell(13, 0) + x.number(1), 13 + Session.INDEX + 13);
        DUE.same("the inputs", value(x, "(Cab)"), "(. .)");
    }

    private static void promises13To15() {
        Session x = new Session();
        // NoSuchElementException if there is none; IllegalArgumentException if it is not 0 .. 1000.
        DUE.same("none", x.run(5), Session.ELEMENT);
        // 0 if there was none.
        DUE.same("no run", x.steps() + " " + x.result(), "0 -1");
        x.check("(C(!1)2)");
        DUE.same("not 0 .. 1000", x.run(-1) + x.run(1001), Session.ARGUMENT.repeat(2));
        // Runs the expression at hand, at most so many steps (0 .. 1000): 0 it has not ended, 1 it has a value,
        // How many steps the latest run began;
        DUE.same("0", x.run(0) + " " + x.steps(), "0 0");
        DUE.same("3", x.run(3) + " " + x.steps(), "0 3");
        DUE.same("4", x.run(4) + " " + x.steps(), "1 4");
        DUE.same("1000", x.run(1000) + " " + x.steps(), "1 4");
        // 2 it failed by an operation, 3 by the cells.
        DUE.same("by an operation", x.check("(A1)") + x.run(9) + x.steps(), Session.OPERATION + "22");
        x.define("Gc*(C(C(Ccc)(Ccc))(C(Ccc)(Ccc)))");
        x.define("Hc*(C(C(Gc)(Gc))(C(Gc)(Gc)))");
        DUE.same("by the cells", x.check("(C(H1)(H1))") + x.run(1000), "163");
        // The cell that is the latest run's value; -1 if it has none, or there was none since cells were made or cleared.
        DUE.same("it has none", x.result(), -1);
        ran(x, "8", "1 1 11 13");
        DUE.same("a number", x.number(1) + x.result(), "13-1");
        ran(x, "8", "1 1 11 14");
        DUE.same("a pair", x.pair(1, 1) + x.result(), "14-1");
        ran(x, "8", "1 1 11 15");
        x.clear();
        DUE.same("cleared", x.result() + " " + x.steps(), "-1 1");
    }

    private static void promises16And17() {
        Session x = new Session();
        // How many cells there are, at least 13.
        DUE.same("at least", x.count(), 13);
        x.number(7);
        x.check("(C12)");
        x.run(3);
        DUE.same("made and of a run", x.count(), 15);
        // Of a cell: its kind (what = 0), its number (1; 0 if it is none), its halves (2, 3; -1 if it is no pair).
        DUE.same("a number", x.cell(13, 0) + " " + x.cell(13, 1) + " " + x.cell(13, 2) + " " + x.cell(13, 3), "1 7 -1 -1");
        DUE.same("a pair", x.cell(14, 0) + " " + x.cell(14, 1) + " " + x.cell(14, 2) + " " + x.cell(14, 3), "16 0 4 5");
        DUE.same("TRUE", x.cell(0, 0) + " " + x.cell(0, 1) + " " + x.cell(0, 2) + " " + x.cell(0, 3), "2 0 -1 -1");
        // IndexOutOfBoundsException if there is no such cell; IllegalArgumentException if there is no such what.
        DUE.same("no such cell", x.cell(-1, 0) + x.cell(15, 0), Session.INDEX.repeat(2));
        DUE.same("no such what", x.cell(0, -1) + x.cell(14, 4), Session.ARGUMENT.repeat(2));
    }
}
