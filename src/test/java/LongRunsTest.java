/**
 * Runs of up to 512 calls on one object, worked out by hand: several long texts, definitions and expressions that use
 * them, one after the other. What a call answers is what the document says of it, however many went before.
 */
public final class LongRunsTest {
    private static final Due DUE = new Due();
    private static final int CALLS = 512;
    private static final String NONE = "impossible";
    private static final String[] PATHS = {"", "A", "D", "AA", "AD", "DA", "DD"};

    public static void main(String[] args) {
        listsAndSums();
        oneNameAfterTheOther();
        eightLongTexts();
        aCharacterAtATime();
        definedAndForgotten();
        cellsMadeAndCleared();
        runsOfOneExpression();
        asTheReadmeUsesIt();
        DUE.end();
    }

    private static void within(Session x) {
        DUE.same("at most 512 calls, not " + x.calls(), x.calls() <= CALLS, true);
    }

    /** What a view says of an input, but for the places of which it says 31. */
    private static String told(Session x, boolean yes, int input) {
        StringBuilder all = new StringBuilder();
        for (int letters = 0; letters < 7; letters++) {
            String kinds = x.view(yes, input, letters);
            if (kinds.equals("-1")) {
                return NONE;
            }
            if (!kinds.equals("31")) {
                all.append(all.length() == 0 ? "" : " ").append("ab".charAt(input)).append(PATHS[letters]).append(kinds);
            }
        }
        return all.toString();
    }

    private static void viewsOfA(Session x, String yes, String no) {
        DUE.same("IF of a", told(x, true, 0), yes);
        DUE.same("IFNOT of a", told(x, false, 0), no);
    }

    /** How it ended, the steps, the result, and how many cells there are. */
    private static void ran(Session x, int a, int b, String want) {
        DUE.same("inputs", x.input(0, a) + x.input(1, b), Session.DONE.repeat(2));
        DUE.same("run of " + a + " and " + b, x.ran(1000), want);
    }

    /**
     * G is the sum of the first two numbers of a list, 9 if there is but one, 0 if there is none; H is a pair of what
     * G is of both halves; I is whether it is a pair of a pair with a number first and of a list.
     */
    private static void listsAndSums() {
        Session x = new Session();
        DUE.same("G", x.defined("Gcl(?(&(Pc)(N(Ac)))(?(&(P(Dc))(N(A(Dc))))(+(Ac)(A(Dc)))9)0)"), "1");
        DUE.same("H", x.defined("Hcp(C(G(?(P(Ac))(Ac).))(G(?(P(Dc))(Dc).)))"), "16");
        DUE.same("I", x.defined("Ic*(&(Pc)(&(P(Ac))(&(N(A(Ac)))(|(E(Dc))(P(Dc))))))"), "6");
        makeLists(x);
        DUE.same("first", x.checked("(?(Ia)(+(A(Aa))(G(Da)))(?(Pa)(A(Ha))(?(Na)a0)))"), "31");
        viewsOfA(x, "", "a16");
        ran(x, 17, 2, "1 42 18 19");
        DUE.same("-7 + 9", x.cell(18, 1), 2);
        ran(x, 16, 2, "1 48 3 19");
        ran(x, 13, 2, "1 13 13 18");
        ran(x, 2, 2, "1 13 3 18");
        DUE.same("second", x.checked("(:c(Ia)(:d(Ib)(?(&cd)(<(A(Aa))(A(Ab)))(|c(&dd)))))"), "6");
        viewsOfA(x, "", "");
        DUE.same("third", x.checked("(&(&(Ia)(Ib))(C(Ha)(G(C(A(Aa))(Db)))))"), "20");
        viewsOfA(x, "a16 aA16 aD24 aAA1", "");
        DUE.same("IF of b", told(x, true, 1), "b16 bA16 bD24 bAA1");
        x.input(0, 17);
        x.input(1, 17);
        DUE.same("its value", x.run(1000) + x.written(x.result()), "1((33 9) 33)");
        DUE.same("not the parameter's type", x.checked("(C(Ia)(Ha))"), Session.OPERATION + "@6");
        x.forget();
        DUE.same("forgotten", x.checked("(Ia)"), Session.ARGUMENT + "@1");
        within(x);
    }

    /** Cell 14 is (40), 16 is (-7 40), 17 is ((-7 40) 40), as lists. */
    private static void makeLists(Session x) {
        DUE.same("40", x.number(40), 13);
        DUE.same("(40)", x.pair(13, 2), 14);
        DUE.same("-7", x.number(-7), 15);
        DUE.same("(-7 40)", x.pair(15, 14), 16);
        DUE.same("((-7 40) 40)", x.pair(16, 14), 17);
    }

    /** Names that remember, names that are bound again, and a function that is defined again. */
    private static void oneNameAfterTheOther() {
        Session x = new Session();
        String text = "(:c(Na)(:d(Nb)(?(&cd)(+ab)(|(&ca)(|(&db)(Pa))))))";
        DUE.same("both, one or none", x.checked(text), "7");
        viewsOfA(x, "", "a14");
        DUE.same("IFNOT of b", told(x, false, 1), "b30");
        ran(x, 4, 12, "1 13 13 14");
        DUE.same("1 + 9", x.cell(13, 1), 10);
        ran(x, 4, 2, "1 14 4 13");
        ran(x, 2, 5, "1 16 5 13");
        ran(x, 2, 2, "1 17 1 13");
        DUE.same("d says nothing of a", x.checked(text.replace("(&ca)", "(&da)")), "31");
        DUE.same("one of them is not both", x.checked(text.replace("(&cd)", "(|cd)")), Session.OPERATION + "@21");
        DUE.same("it runs", x.ran(1000), "1 18 1 13");
        ran(x, 2, 5, "2 13 -1 13");
        text = "(:c(:c(Na)(!c))(:d(:e(Pa)(|e(Na)))(?c(?d(Aa)1)(+a1))))";
        DUE.same("a name in what a name is", x.checked(text), "31");
        viewsOfA(x, "", "a16 aA4");
        ran(x, 5, 5, "1 19 13 14");
        DUE.same("2 + 1", x.cell(13, 1), 3);
        ran(x, 2, 5, "1 19 4 13");
        text = text.replace("(!c)", "c");
        DUE.same("the other way round", x.checked(text), Session.OPERATION + "@" + text.indexOf("(Aa)"));
        DUE.same("G", x.defined("Gh*(:c(Nh)(:d(Ph)(?c(+h1)(?d(Ah)h))))"), "31");
        DUE.same("G of a", x.checked("(Ga)"), "31");
        viewsOfA(x, "a27", "a20");
        x.forget();
        DUE.same("another G", x.defined("Gh*(Nh)") + x.checked("(Ga)"), "66");
        viewsOfA(x, "a1", "a30");
        within(x);
    }

    /** Three definitions and five expressions of 58 to 60 characters, and the last call is the 512th. */
    private static void eightLongTexts() {
        Session x = new Session();
        DUE.same("G", x.define("Gcl(?(&(Pc)(N(Ac)))(?(&(P(Dc))(N(A(Dc))))(+(Ac)(A(Dc)))9)0)"), "1");
        DUE.same("H", x.define("Hcp(C(G(?(P(Ac))(Ac).))(G(?(P(Dc))(Dc)(:d(Ac)(?(Pd)d.)))))"), "16");
        DUE.same("I", x.define("Ic*(&(&(Pc)(!(Nc)))(&(P(Ac))(&(N(A(Ac)))(|(E(Dc))(P(Dc))))))"), "6");
        makeLists(x);
        x.input(0, 17);
        x.input(1, 17);
        String first = "(:c(Ia)(:d(Ib)(?(&cd)(<(A(Aa))(A(Ab)))(|(&c(Ha))(&d(Hb))))))";
        DUE.same("a comparison or a pair", x.check(first), "22");
        DUE.same("-7 < -7", x.run(1000) + x.result(), "11");
        DUE.same("pairs or FALSE", x.check("(&(&(Ia)(Ib))(?(<(A(Aa))(G(Db)))(C(Ha)(Hb))(C(Hb)(G(Da)))))"), "20");
        DUE.same("b with D; a", x.view(true, 1, 2) + " " + x.view(false, 0, 0), "24 31");
        DUE.same("sum, difference, less", x.check("(:c(?(Ia)(A(Aa))0)(:d(?(Ib)(A(Ab))1)(C(+cd)(C(-cd)(<cd)))))"), "16");
        DUE.same("(-14 (0 FALSE))", x.run(1000) + x.count() + x.cell(18, 1), "122-14");
        DUE.same("pairs", x.check("(?(&(Pa)(Pb))(?(|(Ia)(Ib))(C(Ha)(Hb))(C(Hb)(D(Ha))))(Cab))"), "16");
        DUE.same("not ended", x.run(3) + x.steps(), "03");
        DUE.same("one of them is not both", x.check(first.replace("(&cd)", "(|cd)")), Session.OPERATION);
        DUE.same("where", x.fault(), first.indexOf("(Aa)"));
        DUE.same("no views; a value", x.view(true, 0, 0) + x.run(1000) + x.result(), Session.ELEMENT + "11");
        DUE.same("calls", x.calls() < CALLS, true);
        while (x.calls() < CALLS - 1) {
            DUE.same("cells", x.count(), 18);
        }
        DUE.same("the 512th", x.run(1000), "1");
        DUE.same("calls to the last", x.calls(), CALLS);
    }

    /** Each beginning of a text is looked at as it grows, by check and by define. */
    private static void aCharacterAtATime() {
        String text = "(:c(?(Pa)(Aa)b)(?(Nc)(+c(?(Nb)b1))(|(Ec)(:d(C.c)(Pd)))))";
        Session x = new Session();
        for (int i = 0; i < text.length(); i++) {
            DUE.same("type " + i, x.type(text.charAt(i)), true);
            boolean isWhole = i == text.length() - 1;
            DUE.same("check " + i, x.check(), isWhole ? "3" : Session.ARGUMENT);
            DUE.same("fault " + i, x.fault(), isWhole ? -1 : i + 1);
            DUE.same("define " + i, x.define(), Session.ARGUMENT);
            DUE.same("fault of define " + i, x.fault(), 0);
            DUE.same("at hand " + i, x.run(5), isWhole ? "0" : Session.ELEMENT);
        }
        DUE.same("one too many", x.type(')') + x.check() + x.fault(), "true" + Session.ARGUMENT + text.length());
        DUE.same("that at hand stays", x.run(1000) + " " + x.steps(), "1 11");
        x.wipe();
        String definition = "Ge*(?(Pe)(Ae)(&(Ne)(+e1)))";
        for (int i = 0; i < definition.length(); i++) {
            x.type(definition.charAt(i));
            boolean isWhole = i == definition.length() - 1;
            DUE.same("define " + i, x.define() + x.fault(), isWhole ? "31-1" : Session.ARGUMENT + (i + 1));
        }
        DUE.same("once more", x.define() + x.fault(), Session.ARGUMENT + 0);
        DUE.same("it is there", x.checked("(N(G(Cb1)))"), "6");
        within(x);
    }

    /** The same text is a definition, and none, and one again. */
    private static void definedAndForgotten() {
        Session x = new Session();
        x.text("Gc*(:d(Nc)(?d(+c1)c))");
        int rounds = 0;
        while (x.calls() + 6 <= CALLS) {
            DUE.same("defined", x.define() + x.fault(), "31-1");
            DUE.same("there is one", x.define() + x.fault(), Session.ARGUMENT + 0);
            x.forget();
            DUE.same("no expression", x.run(9), Session.ELEMENT);
            rounds++;
        }
        DUE.same("rounds", rounds, 81);
        within(x);
    }

    /** 40 cells, the 41st, a run behind them, and none again. */
    private static void cellsMadeAndCleared() {
        Session x = new Session();
        x.check("(C(Cab)(C(+12)b))");
        for (int round = 0; round < 8; round++) {
            for (int i = 0; i < 40; i++) {
                boolean isNumber = (i + round) % 2 == 0;
                DUE.same("cell " + i, isNumber ? x.number(round * i) : x.pair(i + 12, i), 13 + i);
            }
            DUE.same("the 41st", x.number(1) + x.pair(1, 1), Session.STATE.repeat(2));
            ran(x, 52, 13 + round, "1 9 56 57");
            DUE.same("halves", x.cell(53, 2) + " " + x.cell(53, 3), "52 " + (13 + round));
            x.clear();
            DUE.same("none", x.count() + " " + x.result(), "13 -1");
            DUE.same("the inputs are EMPTY", x.ran(9) + " " + x.cell(13, 2), "1 9 16 17 2");
        }
        within(x);
    }

    /** One expression, run with each number of steps that it can have, once and again. */
    private static void runsOfOneExpression() {
        Session x = new Session();
        x.define("Gc*(C(Nc)(?(Pc)(Dc)c))");
        x.check("(:c(Ga)(C(G(Ac))(G(Dc))))");
        x.input(0, 8);
        int ended = 0;
        for (int steps = 0; x.calls() + 4 <= CALLS; steps++) {
            int most = steps % 40;
            ended += Integer.parseInt(x.run(most));
            DUE.same("steps of " + most, x.steps(), Math.min(most, 31));
            DUE.same("result of " + most, x.result(), most < 31 ? -1 : 16);
            DUE.same("cells of " + most, x.count(), 13 + (most >= 10 ? 1 : 0) + (most >= 21 ? 1 : 0) + (most >= 31 ? 2 : 0));
        }
        DUE.same("how often it ended", ended, 22);
        within(x);
    }

    private static void asTheReadmeUsesIt() {
        Session x = new Session();
        DUE.same("G answers numbers", x.define("Gcn(+c1)"), "1");
        DUE.same("a is a number where G is applied", x.check("(?(Na)(Ga)0)"), "1");
        DUE.same("a is 41", x.number(41) + x.input(0, 13), 13 + Session.DONE);
        DUE.same("it has a value", x.run(100) + " " + x.cell(x.result(), 1), "1 42");
        DUE.same("the other definition", x.define("Hcl(?(Pc)(Ac)0)"), "31");
        within(x);
    }
}
