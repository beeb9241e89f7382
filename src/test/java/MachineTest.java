/** Promises 9 to 17: cells, inputs, runs, their steps and results. */
public final class MachineTest {
    private static final Due DUE = new Due();

    public static void main(String[] args) {
        fixedCells();
        madeCells();
        fortyCells();
        cellsThatAreNot();
        inputs();
        constantsAndVariables();
        operations();
        steps();
        stepLimits();
        failures();
        cellsOfARun();
        sixtyFourCells();
        functionSteps();
        uncheckedRuns();
        results();
        arguments();
        DUE.end();
    }

    private static String cell(Session x, int i) {
        return x.cell(i, 0) + " " + x.cell(i, 1) + " " + x.cell(i, 2) + " " + x.cell(i, 3);
    }

    private static void fixedCells() {
        Session x = new Session();
        DUE.same("count", x.count(), 13);
        DUE.same("TRUE", cell(x, 0), "2 0 -1 -1");
        DUE.same("FALSE", cell(x, 1), "4 0 -1 -1");
        DUE.same("EMPTY", cell(x, 2), "8 0 -1 -1");
        for (int i = 0; i < 10; i++) {
            DUE.same("number " + i, cell(x, 3 + i), "1 " + i + " -1 -1");
        }
    }

    private static void madeCells() {
        Session x = new Session();
        DUE.same("number", x.number(Integer.MIN_VALUE), "13");
        DUE.same("pair", x.pair(13, 1), "14");
        DUE.same("pair of a pair", x.pair(14, 14), "15");
        DUE.same("count", x.count(), 16);
        DUE.same("the number", cell(x, 13), "1 -2147483648 -1 -1");
        DUE.same("the pair", cell(x, 14), "16 0 13 1");
        DUE.same("the second pair", cell(x, 15), "16 0 14 14");
        x.clear();
        DUE.same("cleared", x.count(), 13);
        DUE.same("gone", x.cell(13, 0), Session.INDEX);
        DUE.same("made anew", x.pair(0, 12), "13");
        DUE.same("nothing of the number is left", cell(x, 13), "16 0 0 12");
        x.clear();
        x.number(8);
        DUE.same("nothing of the pair is left", cell(x, 13), "1 8 -1 -1");
    }

    private static void fortyCells() {
        Session x = new Session();
        for (int i = 0; i < 40; i++) {
            DUE.same("cell " + i, i % 2 == 0 ? x.number(i) : x.pair(i, 12 + i), String.valueOf(13 + i));
        }
        DUE.same("41st number", x.number(1), Session.STATE);
        DUE.same("41st pair", x.pair(52, 52), Session.STATE);
        DUE.same("41st pair, no such cell", x.pair(53, 0), Session.ARGUMENT);
        DUE.same("count", x.count(), 53);
        x.check("(C(+11)2)");
        DUE.same("a run has room", x.ran(9), "1 5 54 55");
        DUE.same("41st behind a run", x.number(1), Session.STATE);
        DUE.same("what is refused changes nothing", x.result() + " " + x.count(), "54 55");
        x.clear();
        DUE.same("after clear", x.number(1), "13");
    }

    private static void cellsThatAreNot() {
        Session x = new Session();
        DUE.same("pair of -1", x.pair(-1, 0), Session.ARGUMENT);
        DUE.same("pair with -1", x.pair(0, -1), Session.ARGUMENT);
        DUE.same("pair of 13", x.pair(13, 0), Session.ARGUMENT);
        DUE.same("pair with 13", x.pair(0, 13), Session.ARGUMENT);
        DUE.same("pair of the largest", x.pair(Integer.MAX_VALUE, Integer.MIN_VALUE), Session.ARGUMENT);
        DUE.same("none was made", x.count(), 13);
        DUE.same("cell -1", x.cell(-1, 0), Session.INDEX);
        DUE.same("cell 13", x.cell(13, 0), Session.INDEX);
        DUE.same("cell largest", x.cell(Integer.MAX_VALUE, 0), Session.INDEX);
        DUE.same("cell 64", x.cell(64, 9), Session.INDEX);
        DUE.same("what -1", x.cell(0, -1), Session.ARGUMENT);
        DUE.same("what 4", x.cell(0, 4), Session.ARGUMENT);
        DUE.same("what smallest", x.cell(12, Integer.MIN_VALUE), Session.ARGUMENT);
    }

    private static void inputs() {
        Session x = new Session();
        DUE.same("input -1", x.input(-1, 0), Session.INDEX);
        DUE.same("input 2", x.input(2, 99), Session.INDEX);
        DUE.same("cell -1", x.input(0, -1), Session.ARGUMENT);
        DUE.same("cell 13", x.input(1, 13), Session.ARGUMENT);
        x.check("(Cab)");
        DUE.same("EMPTY at first", x.ran(9) + ": " + cell(x, 13), "1 3 13 14: 16 0 2 2");
        DUE.same("a cell of a run", x.input(0, 13), Session.ARGUMENT);
        DUE.same("a pair of a run's cell", x.pair(13, 0), Session.ARGUMENT);
        DUE.same("a pair with a run's cell", x.pair(0, 13), Session.ARGUMENT);
        DUE.same("a is 5", x.input(0, 8), Session.DONE);
        DUE.same("b is TRUE", x.input(1, 0), Session.DONE);
        DUE.same("the run's cell is still there", x.result() + " " + x.count(), "13 14");
        DUE.same("inputs", x.ran(9) + ": " + cell(x, 13), "1 3 13 14: 16 0 8 0");
        DUE.same("a made cell", x.number(77) + x.input(1, 13), "13" + Session.DONE);
        DUE.same("inputs again", x.ran(9) + ": " + cell(x, 14), "1 3 14 15: 16 0 8 13");
        x.clear();
        DUE.same("EMPTY after clear", x.ran(9) + ": " + cell(x, 13), "1 3 13 14: 16 0 2 2");
    }

    private static void constantsAndVariables() {
        Session x = new Session();
        String all = "#~.0123456789";
        for (int i = 0; i < all.length(); i++) {
            x.check(all.substring(i, i + 1));
            DUE.same("value of " + all.charAt(i), x.ran(1), "1 1 " + i + " 13");
        }
        x.check("(:c5(:d6(C(Ccd)(:e7(Cec)))))");
        DUE.same("bound", x.ran(1000) + ": " + cell(x, 13) + ", " + cell(x, 14) + ", " + cell(x, 15),
            "1 13 15 16: 16 0 8 9, 16 0 10 8, 16 0 13 14");
        x.check("(:c(:c1(+cc))(+cc))");
        DUE.same("bound again", x.ran(1000) + ": " + cell(x, 14), "1 9 14 15: 1 4 -1 -1");
    }

    private static void value(Session x, String text, int want) {
        x.check(text);
        DUE.same(text + " ends", x.run(1000), "1");
        DUE.same(text, x.result(), want);
    }

    private static void operations() {
        Session x = new Session();
        String[] kinds = {"3", "#", "~", ".", "(C12)"};
        String[] tests = {"N", "B", "B", "E", "P"};
        for (int k = 0; k < kinds.length; k++) {
            for (String test : new String[] {"N", "B", "E", "P"}) {
                value(x, "(" + test + kinds[k] + ")", test.equals(tests[k]) ? 0 : 1);
            }
            value(x, "(!" + kinds[k] + ")", kinds[k].equals("~") ? 0 : 1);
            value(x, "(?" + kinds[k] + "12)", kinds[k].equals("~") ? 5 : 4);
            value(x, "(&" + kinds[k] + "7)", kinds[k].equals("~") ? 1 : 10);
        }
        value(x, "(|~7)", 10);
        value(x, "(|67)", 9);
        value(x, "(|.7)", 2);
        value(x, "(|~~)", 1);
        value(x, "(A(C12))", 4);
        value(x, "(D(C12))", 5);
        value(x, "(A(D(C1(C23))))", 5);
        value(x, "(<12)", 0);
        value(x, "(<22)", 1);
        value(x, "(<32)", 1);
        value(x, "(<(-12)0)", 0);
        x.check("(+12)");
        x.run(9);
        DUE.same("a sum is a new cell", cell(x, x.result()), "1 3 -1 -1");
        wrapping(x);
    }

    private static void wrapping(Session x) {
        x.number(Integer.MAX_VALUE);
        x.number(Integer.MIN_VALUE);
        x.input(0, 13);
        x.input(1, 14);
        x.check("(?(Na)(+a1)0)");
        x.run(9);
        DUE.same("the sum wraps", x.cell(x.result(), 1), "-2147483648");
        x.check("(?(Nb)(-b1)0)");
        x.run(9);
        DUE.same("the difference wraps", x.cell(x.result(), 1), "2147483647");
        x.check("(-ab)");
        x.run(9);
        DUE.same("largest less smallest", x.cell(x.result(), 1), "-1");
        x.check("(<ba)");
        x.run(9);
        DUE.same("smallest < largest", x.result(), 0);
        x.check("(<ab)");
        x.run(9);
        DUE.same("largest < smallest", x.result(), 1);
    }

    private static void ran(Session x, String text, String want) {
        x.check(text);
        DUE.same(text, x.ran(1000), want);
    }

    private static void steps() {
        Session x = new Session();
        DUE.same("no run", x.steps(), 0);
        ran(x, "(C1(C2.))", "1 5 14 15");
        ran(x, "(?#1(C22))", "1 3 4 13");
        ran(x, "(?~(C22)1)", "1 3 4 13");
        ran(x, "(&~1)", "1 2 1 13");
        ran(x, "(&#1)", "1 3 4 13");
        ran(x, "(|1(C22))", "1 2 4 13");
        ran(x, "(|~1)", "1 3 4 13");
        ran(x, "(:c1c)", "1 3 4 13");
        ran(x, "(!(!(!~)))", "1 4 0 13");
    }

    private static void stepLimits() {
        Session x = new Session();
        x.check("(C(+12)3)");
        DUE.same("0 steps", x.ran(0), "0 0 -1 13");
        DUE.same("1 step", x.ran(1), "0 1 -1 13");
        DUE.same("3 steps", x.ran(3), "0 3 -1 13");
        DUE.same("4 steps: the sum is made", x.ran(4), "0 4 -1 14");
        DUE.same("5 steps", x.ran(5), "1 5 14 15");
        DUE.same("6 steps", x.ran(6), "1 5 14 15");
        x.check("(C(A1)3)");
        DUE.same("the failure comes with its operands", x.ran(3), "2 3 -1 13");
        DUE.same("before it", x.ran(2), "0 2 -1 13");
        x.check("1");
        DUE.same("a leaf, 0 steps", x.ran(0), "0 0 -1 13");
    }

    private static void failures() {
        Session x = new Session();
        ran(x, "(Aa)", "2 2 -1 13");
        ran(x, "(Da)", "2 2 -1 13");
        ran(x, "(A1)", "2 2 -1 13");
        ran(x, "(+#1)", "2 3 -1 13");
        ran(x, "(-1.)", "2 3 -1 13");
        ran(x, "(<~1)", "2 3 -1 13");
        ran(x, "(<1(C11))", "2 5 -1 14");
        ran(x, "(+#(C11))", "2 5 -1 14");
        ran(x, "(+#(A2))", "2 4 -1 13");
        ran(x, "(?(Aa)12)", "2 3 -1 13");
        ran(x, "(:c(Aa)1)", "2 3 -1 13");
        ran(x, "(C(Aa)1)", "2 3 -1 13");
    }

    private static void cellsOfARun() {
        Session x = new Session();
        x.check("(C(C12)(C34))");
        DUE.same("run", x.ran(9) + ": " + cell(x, 13) + ", " + cell(x, 14) + ", " + cell(x, 15),
            "1 7 15 16: 16 0 4 5, 16 0 6 7, 16 0 13 14");
        DUE.same("run again", x.ran(9), "1 7 15 16");
        DUE.same("a number instead", x.number(3) + " " + x.count(), "13 14");
        DUE.same("the rest is gone", x.cell(14, 0), Session.INDEX);
        DUE.same("steps stay, the result does not", x.steps() + " " + x.result(), "7 -1");
        DUE.same("run behind it", x.ran(9), "1 7 16 17");
        DUE.same("a pair instead", x.pair(13, 13) + " " + x.count() + " " + x.result(), "14 15 -1");
        DUE.same("run that throws", x.run(-1) + " " + x.run(1001), Session.ARGUMENT + " " + Session.ARGUMENT);
        x.run(9);
        DUE.same("it leaves all as it was", x.run(1001) + x.count() + x.result() + x.steps(),
            Session.ARGUMENT + "18" + "17" + "7");
        DUE.same("a run without steps drops them", x.ran(0), "0 0 -1 15");
    }

    private static void sixtyFourCells() {
        Session x = new Session();
        for (int i = 0; i < 40; i++) {
            x.number(i);
        }
        x.define("Gc*(C(C(Ccc)(Ccc))(C(Ccc)c))");
        x.check("(C(Ga)(C(+11)(-11)))");
        DUE.same("the kept ones and ten", x.ran(1000), "1 23 62 63");
        x.check("(C(C(Ga)(C(+11)(-11)))1)");
        DUE.same("the 64th", x.ran(1000), "1 25 63 64");
        x.check("(C(C(C(Ga)(C(+11)(-11)))1)2)");
        DUE.same("the 65th is a pair", x.ran(1000), "3 27 -1 64");
        x.check("(+(:c(C(C(Ga)(C(+11)(-11)))1)1)1)");
        DUE.same("the 65th is a sum", x.ran(1000), "3 29 -1 64");
        x.check("(-(:c(C(C(Ga)(C(+11)(-11)))1)1)1)");
        DUE.same("the 65th is a difference", x.ran(1000), "3 29 -1 64");
        x.check("(+(:c(C(C(Ga)(C(+11)(-11)))1)1)#)");
        DUE.same("it is no sum", x.ran(1000), "2 29 -1 64");
        x.check("(<(:c(C(C(Ga)(C(+11)(-11)))1)1)2)");
        DUE.same("a comparison makes none", x.ran(1000), "1 29 0 64");
        DUE.same("cell 63 is there", x.cell(63, 0), "16");
        DUE.same("cell 64 is not", x.cell(64, 0), Session.INDEX);
        DUE.same("the made ones are full", x.number(3), Session.STATE);
        x.clear();
        DUE.same("clear", x.count() + " " + x.result() + " " + x.steps(), "13 -1 29");
    }

    private static void functionSteps() {
        Session x = new Session();
        x.define("Gc*c");
        ran(x, "(G5)", "1 3 8 13");
        x.define("Hdn(C(Gd)(G(+dd)))");
        ran(x, "(H4)", "1 11 14 15");
        x.define("Icn(:d(Hc)(C(Gc)d))");
        ran(x, "(C(I4)(I5))", "1 39 19 20");
        ran(x, "(:c7(C(I1)c))", "1 23 16 17");
        DUE.same("the variable is not the function's", cell(x, 16), "16 0 15 10");
        x.input(0, 9);
        x.input(1, 11);
        ran(x, "(C(G(G1))(Cab))", "1 9 14 15");
        DUE.same("nor are the inputs", cell(x, 13), "16 0 9 11");
        x.check("(I4)");
        DUE.same("in the function's first step", x.ran(3), "0 3 -1 13");
        long limit = 0;
        for (int i = 0; i <= 19; i++) {
            limit += Integer.parseInt(x.run(i));
        }
        DUE.same("ends with its 19th step only", limit + " " + x.steps(), "1 19");
        thousandSteps();
    }

    private static void thousandSteps() {
        Session x = new Session();
        x.define("Gc*(:d(?(?ccc)(?ccc)c)(:e(?ddd)(?(?eee)(?ddd)c)))");
        x.define("Hc*(?(?(Gc)(Gc)c)(?(Gc)(Gc)c)(Gc))");
        x.define("Ic*(?(?(Hc)(Hc)c)(?(Hc)(Hc)c)(Hc))");
        x.check("(?(Ia)(?(Ia)(Ia)1)2)");
        DUE.same("more than 1000 steps", x.run(1000) + " " + x.steps() + " " + x.result(), "0 1000 -1");
    }

    private static void uncheckedRuns() {
        Session x = new Session();
        DUE.same("not accepted", x.checked("(+a1)"), Session.OPERATION + "@0");
        DUE.same("it runs and fails", x.ran(9), "2 3 -1 13");
        x.input(0, 12);
        DUE.same("it runs and has a value", x.ran(9) + ": " + cell(x, 13), "1 3 13 14: 1 10 -1 -1");
    }

    private static void results() {
        Session x = new Session();
        DUE.same("none", x.result(), -1);
        x.check("7");
        x.run(1);
        DUE.same("7", x.result(), 10);
        x.number(1);
        DUE.same("cells were made", x.result(), -1);
        x.run(1);
        DUE.same("7 again", x.result(), 10);
        x.pair(9, 1);
        DUE.same("a pair was made", x.result(), -1);
        x.run(1);
        x.pair(-1, 1);
        DUE.same("no pair was made", x.result(), 10);
        x.clear();
        DUE.same("cleared", x.result(), -1);
        x.run(1);
        x.input(0, 3);
        x.wipe();
        x.check("8");
        x.define("Gc*c");
        x.forget();
        DUE.same("others leave it", x.result() + " " + x.steps(), "10 1");
        x.check("8");
        x.run(0);
        DUE.same("not ended", x.result() + " " + x.steps(), "-1 0");
    }

    private static void arguments() {
        Session x = new Session();
        DUE.same("nothing at hand", x.run(5), Session.ELEMENT);
        DUE.same("nothing at hand, no such steps", x.run(-1), Session.ELEMENT);
        x.check("1");
        DUE.same("-1", x.run(-1), Session.ARGUMENT);
        DUE.same("1001", x.run(1001), Session.ARGUMENT);
        DUE.same("smallest", x.run(Integer.MIN_VALUE), Session.ARGUMENT);
        DUE.same("largest", x.run(Integer.MAX_VALUE), Session.ARGUMENT);
        DUE.same("1000", x.run(1000), "1");
        DUE.same("0", x.run(0), "0");
    }
}
