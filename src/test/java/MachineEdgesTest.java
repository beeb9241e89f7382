/**
 * The edges of promises 1 and 9 to 17 and of the terms of the machine: cells, inputs and steps at the limit,
 * at the last before it and at the first behind it, sums and differences that wrap, and runs that end there.
 */
public final class MachineEdgesTest {
    private static final Due DUE = new Due();
    private static final int SMALLEST = Integer.MIN_VALUE;
    private static final int LARGEST = Integer.MAX_VALUE;

    public static void main(String[] args) {
        aNewMachine();
        theFixedCells();
        fortyNumbers();
        fortyPairs();
        theFortiethBehindARun();
        everyNumber();
        halvesOfAPair();
        inputsThatThereAre();
        cellsForInputs();
        clearing();
        cellsThatThereAre();
        whatOfACell();
        sumsThatWrap();
        differencesThatWrap();
        comparisonsDoNotWrap();
        stepsThatMayBeAsked();
        aThousandSteps();
        theLastStep();
        failuresAtTheLastStep();
        operandsThatFail();
        sixtyFourCells();
        sixtyFourCellsOfARun();
        theFailureThatComesFirst();
        goneWhenARunBegins();
        goneWhenACellIsMade();
        resultsThatThereAre();
        stepsOfTheLatestRun();
        DUE.end();
    }

    private static String cell(Session x, int i) {
        return x.cell(i, 0) + " " + x.cell(i, 1) + " " + x.cell(i, 2) + " " + x.cell(i, 3);
    }

    private static void fill(Session x, int cells) {
        for (int i = 0; i < cells; i++) {
            x.number(i);
        }
    }

    private static void ran(Session x, String text, String want) {
        x.check(text);
        DUE.same(text, x.ran(1000), want);
    }

    /** "Nothing checked; the inputs are EMPTY; no cells are made." */
    private static void aNewMachine() {
        Session x = new Session();
        DUE.same("count, steps, result, fault", x.count() + " " + x.steps() + " " + x.result() + " " + x.fault(), "13 0 -1 -1");
        DUE.same("run", x.run(0) + x.run(1000), Session.ELEMENT.repeat(2));
        DUE.same("the last cell and the one behind it", x.cell(12, 0) + x.cell(13, 0), "1" + Session.INDEX);
        ran(x, "a", "1 1 2 13");
        ran(x, "b", "1 1 2 13");
        DUE.same("the first that is made", x.number(7), "13");
    }

    private static void theFixedCells() {
        Session x = new Session();
        DUE.same("TRUE", cell(x, 0), "2 0 -1 -1");
        DUE.same("FALSE", cell(x, 1), "4 0 -1 -1");
        DUE.same("EMPTY", cell(x, 2), "8 0 -1 -1");
        DUE.same("0", cell(x, 3), "1 0 -1 -1");
        DUE.same("9", cell(x, 12), "1 9 -1 -1");
        ran(x, "(<12)", "1 3 0 13");
        ran(x, "(<21)", "1 3 1 13");
        ran(x, "(C0(C9.))", "1 5 14 15");
        DUE.same("first and last number in pairs", cell(x, 13) + ", " + cell(x, 14), "16 0 12 2, 16 0 3 13");
    }

    /** "IllegalStateException if 40 are made": the 39th, the 40th and the 41st. */
    private static void fortyNumbers() {
        Session x = new Session();
        fill(x, 38);
        DUE.same("the 39th", x.number(39), "51");
        DUE.same("the 40th", x.number(40) + x.count(), "5253");
        DUE.same("the 41st", x.number(41), Session.STATE);
        DUE.same("the 41st again", x.number(0) + x.pair(0, 0), Session.STATE.repeat(2));
        DUE.same("40 stand", x.count() + " " + cell(x, 52) + x.cell(53, 0), "53 1 40 -1 -1" + Session.INDEX);
        x.clear();
        DUE.same("none are made", x.number(1) + x.number(2), "1314");
    }

    private static void fortyPairs() {
        Session x = new Session();
        for (int i = 0; i < 39; i++) {
            x.pair(12 + i, i);
        }
        DUE.same("the 40th", x.pair(51, 12), "52");
        DUE.same("the 41st", x.pair(51, 12), Session.STATE);
        DUE.same("the 41st of the last", x.pair(52, 52) + x.number(1), Session.STATE.repeat(2));
        DUE.same("the 41st, no such cell", x.pair(53, 0) + x.pair(0, 53) + x.pair(-1, -1), Session.ARGUMENT.repeat(3));
        DUE.same("40 stand", x.count() + " " + cell(x, 52), "53 16 0 51 12");
    }

    /** What a run made does not count for the 40, and is gone when the next is made. */
    private static void theFortiethBehindARun() {
        Session x = new Session();
        fill(x, 39);
        ran(x, "(C(C12)(C34))", "1 7 54 55");
        DUE.same("the 40th", x.number(5) + " " + x.count() + " " + x.result(), "52 53 -1");
        ran(x, "(C(C12)(C34))", "1 7 55 56");
        DUE.same("the 41st", x.number(6) + x.pair(0, 0), Session.STATE.repeat(2));
        DUE.same("what is refused makes none", x.count() + " " + x.result() + " " + cell(x, 52), "56 55 1 5 -1 -1");
        x.clear();
        ran(x, "(C(C12)(C34))", "1 7 15 16");
        DUE.same("the first", x.number(8) + " " + x.count(), "13 14");
    }

    private static void everyNumber() {
        Session x = new Session();
        int[] numbers = {SMALLEST, SMALLEST + 1, -1, 0, 1, 9, 10, LARGEST - 1, LARGEST};
        for (int i = 0; i < numbers.length; i++) {
            DUE.same("number " + numbers[i], x.number(numbers[i]), 13 + i);
            DUE.same("its cell", cell(x, 13 + i), "1 " + numbers[i] + " -1 -1");
        }
    }

    /** "No such cell (one of a run is none)", for each half. */
    private static void halvesOfAPair() {
        Session x = new Session();
        x.check("(C12)");
        for (int made = 0; made < 3; made++) {
            int last = 12 + made;
            x.run(9);
            DUE.same("the run's cell", x.result(), last + 1);
            for (int none : new int[] {SMALLEST, -1, last + 1, last + 2, 64, LARGEST}) {
                DUE.same("first " + none, x.pair(none, 0), Session.ARGUMENT);
                DUE.same("second " + none, x.pair(0, none), Session.ARGUMENT);
                DUE.same("both " + none, x.pair(none, none), Session.ARGUMENT);
            }
            DUE.same("the run's cell stands", x.result() + " " + x.count(), (last + 1) + " " + (last + 2));
            DUE.same("first and last", x.pair(0, last), last + 1);
            DUE.same("its halves", cell(x, last + 1), "16 0 0 " + last);
        }
        DUE.same("last and first", x.pair(15, 0) + ": " + cell(x, 16), "16: 16 0 15 0");
    }

    /** "Input a (0) or b (1)". */
    private static void inputsThatThereAre() {
        Session x = new Session();
        for (int which : new int[] {SMALLEST, -1, 2, 3, LARGEST}) {
            DUE.same("input " + which, x.input(which, 0), Session.INDEX);
            DUE.same("input " + which + ", no such cell", x.input(which, 13), Session.INDEX);
        }
        ran(x, "(Cab)", "1 3 13 14");
        DUE.same("they are EMPTY still", cell(x, 13), "16 0 2 2");
        DUE.same("a and b", x.input(0, 5) + x.input(1, 6), Session.DONE.repeat(2));
        ran(x, "(Cab)", "1 3 13 14");
        DUE.same("they are 2 and 3", cell(x, 13), "16 0 5 6");
    }

    private static void cellsForInputs() {
        Session x = new Session();
        x.check("(C(Cab)(C12))");
        for (int made = 0; made < 3; made++) {
            int last = 12 + made;
            DUE.same("the last", x.input(0, last) + x.input(1, 0), Session.DONE.repeat(2));
            x.run(9);
            for (int none : new int[] {SMALLEST, -1, last + 1, last + 2, last + 3, last + 4, 64, LARGEST}) {
                DUE.same("a " + none, x.input(0, none), Session.ARGUMENT);
                DUE.same("b " + none, x.input(1, none), Session.ARGUMENT);
            }
            x.run(9);
            DUE.same("they are as they were", cell(x, last + 1), "16 0 " + last + " 0");
            x.number(made);
        }
        fill(x, 37);
        DUE.same("the 40th", x.input(1, 52) + x.input(0, 53), Session.DONE + Session.ARGUMENT);
        x.run(9);
        DUE.same("b is the 40th", cell(x, 53), "16 0 14 52");
    }

    /** "No cells are made, the inputs are EMPTY": of a new object, of a full one, behind a run. */
    private static void clearing() {
        Session x = new Session();
        x.clear();
        DUE.same("nothing to clear", x.count() + " " + x.result() + " " + x.steps(), "13 -1 0");
        fill(x, 40);
        x.input(0, 52);
        x.input(1, 13);
        ran(x, "(C(Cab)1)", "1 5 54 55");
        x.clear();
        DUE.same("cells and result", x.count() + " " + x.result() + x.cell(13, 0), "13 -1" + Session.INDEX);
        DUE.same("steps stay", x.steps(), 5);
        DUE.same("no input of what is gone", x.input(0, 13), Session.ARGUMENT);
        DUE.same("the expression stays", x.ran(9), "1 5 14 15");
        DUE.same("the inputs are EMPTY", cell(x, 13), "16 0 2 2");
        x.clear();
        DUE.same("what a run made is gone", x.count() + " " + x.result(), "13 -1");
        DUE.same("fault stays", x.check("(A1)") + x.fault(), Session.OPERATION + 0);
        x.clear();
        DUE.same("fault stays behind clear", x.fault(), 0);
    }

    private static void cellsThatThereAre() {
        Session x = new Session();
        x.check("(C12)");
        for (int made = 0; made <= 40; made += 20) {
            for (int i : new int[] {SMALLEST, -1, 13 + made, 14 + made, 63, 64, LARGEST}) {
                DUE.same("cell " + i + " of " + made, x.cell(i, 0) + x.cell(i, 3), Session.INDEX.repeat(2));
                DUE.same("cell " + i + ", no such what", x.cell(i, 4) + x.cell(i, -1), Session.INDEX.repeat(2));
            }
            DUE.same("the first and the last", x.cell(0, 0) + x.cell(12 + made, 0), "21");
            x.run(9);
            DUE.same("the run's", x.cell(13 + made, 0) + x.cell(14 + made, 0), "16" + Session.INDEX);
            x.run(0);
            DUE.same("it is gone", x.cell(13 + made, 0), Session.INDEX);
            fill(x, 20);
        }
    }

    /** "Its kind, its number (0 if it is none), its halves (-1 if it is no pair)". */
    private static void whatOfACell() {
        Session x = new Session();
        x.number(-5);
        x.pair(13, 1);
        for (int i = 0; i < 15; i++) {
            for (int what : new int[] {SMALLEST, -1, 4, 5, LARGEST}) {
                DUE.same("cell " + i + " what " + what, x.cell(i, what), Session.ARGUMENT);
            }
        }
        DUE.same("a number", cell(x, 13), "1 -5 -1 -1");
        DUE.same("a pair", cell(x, 14), "16 0 13 1");
    }

    /** What the text answers where a is the one number and b the other. */
    private static String of(int a, int b, String text) {
        Session x = new Session();
        x.number(a);
        x.number(b);
        x.input(0, 13);
        x.input(1, 14);
        x.check(text);
        x.run(9);
        return x.cell(x.result(), 1);
    }

    private static void sumsThatWrap() {
        int[][] rows = {{LARGEST, 0, LARGEST}, {LARGEST - 1, 1, LARGEST}, {LARGEST, 1, SMALLEST}, {LARGEST, 2, SMALLEST + 1},
            {LARGEST, LARGEST, -2}, {SMALLEST, 0, SMALLEST}, {SMALLEST + 1, -1, SMALLEST}, {SMALLEST, -1, LARGEST},
            {SMALLEST, SMALLEST, 0}, {SMALLEST, LARGEST, -1}, {-1, 1, 0}, {0, 0, 0}};
        for (int[] row : rows) {
            DUE.same(row[0] + " + " + row[1], of(row[0], row[1], "(+ab)"), row[2]);
            DUE.same(row[1] + " + " + row[0], of(row[0], row[1], "(+ba)"), row[2]);
        }
    }

    private static void differencesThatWrap() {
        int[][] rows = {{SMALLEST, 0, SMALLEST}, {SMALLEST + 1, 1, SMALLEST}, {SMALLEST, 1, LARGEST}, {SMALLEST, 2, LARGEST - 1},
            {LARGEST, -1, SMALLEST}, {LARGEST - 1, -1, LARGEST}, {0, SMALLEST, SMALLEST}, {0, SMALLEST + 1, LARGEST},
            {-1, SMALLEST, LARGEST}, {SMALLEST, SMALLEST, 0}, {LARGEST, SMALLEST, -1}, {SMALLEST, LARGEST, 1}, {0, 1, -1}};
        for (int[] row : rows) {
            DUE.same(row[0] + " - " + row[1], of(row[0], row[1], "(-ab)"), row[2]);
        }
    }

    /** Less, the same, more; also where the difference would wrap. */
    private static void comparisonsDoNotWrap() {
        int[][] rows = {{0, 1}, {-1, 0}, {SMALLEST, LARGEST}, {SMALLEST, 1}, {-2, LARGEST}, {SMALLEST, SMALLEST + 1},
            {LARGEST - 1, LARGEST}};
        for (int[] row : rows) {
            DUE.same(row[0] + " < " + row[1], of(row[0], row[1], "(?(<ab)12)"), 1);
            DUE.same(row[1] + " < " + row[0], of(row[0], row[1], "(?(<ba)12)"), 2);
            DUE.same(row[0] + " < itself", of(row[0], row[0], "(?(<ab)12)"), 2);
        }
    }

    /** "IllegalArgumentException if it is not 0 .. 1000"; "NoSuchElementException if there is none". */
    private static void stepsThatMayBeAsked() {
        Session x = new Session();
        for (int steps : new int[] {SMALLEST, -1, 0, 1000, 1001, LARGEST}) {
            DUE.same("nothing at hand " + steps, x.run(steps), Session.ELEMENT);
        }
        x.check("(N");
        DUE.same("no expression", x.run(5) + x.run(-1), Session.ELEMENT.repeat(2));
        x.define("Gc*c");
        DUE.same("a definition", x.run(5), Session.ELEMENT);
        x.check("5");
        for (int steps : new int[] {SMALLEST, -1, 1001, LARGEST}) {
            DUE.same("steps " + steps, x.run(steps) + x.steps() + x.result(), Session.ARGUMENT + "0-1");
        }
        DUE.same("0", x.ran(0), "0 0 -1 13");
        DUE.same("1", x.ran(1), "1 1 8 13");
        DUE.same("2", x.ran(2), "1 1 8 13");
        DUE.same("999", x.ran(999), "1 1 8 13");
        DUE.same("1000", x.ran(1000), "1 1 8 13");
        DUE.same("1001", x.ran(1001), Session.ARGUMENT + " 1 8 13");
        x.forget();
        DUE.same("forgotten", x.run(5) + x.run(1001), Session.ELEMENT.repeat(2));
    }

    /** G has 29 steps, H 163, I 497. */
    private static void aThousandSteps() {
        Session x = new Session();
        x.define("Gc*(&(&(&(&cc)(&cc))(&(&cc)(&cc)))(&(&(&cc)(&cc))(&(&cc)c)))");
        x.define("Hc*(&(&(&(Gc)(Gc))(&(Gc)(Gc)))(&(Gc)(&cc)))");
        x.define("Ic*(&(&(Hc)(Hc))(Hc))");
        ran(x, "(Ga)", "1 31 2 13");
        ran(x, "(Ha)", "1 165 2 13");
        ran(x, "(Ia)", "1 499 2 13");
        x.check("(&(Ia)(Ia))");
        DUE.same("999 of 998", x.ran(998), "0 998 -1 13");
        DUE.same("999 of 999", x.ran(999), "1 999 2 13");
        DUE.same("999 of 1000", x.ran(1000), "1 999 2 13");
        x.check("(E(&(Ia)(Ia)))");
        DUE.same("1000 of 999", x.ran(999), "0 999 -1 13");
        DUE.same("1000 of 1000", x.ran(1000), "1 1000 0 13");
        x.check("(B(E(&(Ia)(Ia))))");
        DUE.same("1001 of 1000", x.ran(1000), "0 1000 -1 13");
        DUE.same("1001 of 1001", x.run(1001) + x.steps(), Session.ARGUMENT + 1000);
        x.check("(C(C12)(&(Ia)(Ia)))");
        DUE.same("what was made before is there", x.ran(1000), "0 1000 -1 14");
    }

    /** One step less than it has, as many, one more; and what is begun, and what is not. */
    private static void theLastStep() {
        Session x = new Session();
        x.define("Gc*(Nc)");
        String[] rows = {"1 1", "a 1", "(N1) 2", "(!#) 2", "(C12) 3", "(+12) 3", "(-12) 3", "(<12) 3", "(?#12) 3", "(?~12) 3",
            "(?#1(N2)) 3", "(?~(N1)2) 3", "(&#1) 3", "(&~1) 2", "(&1~) 3", "(|#1) 2", "(|~1) 3", "(:c1c) 3", "(:c12) 3", "(G1) 4",
            "(A(C12)) 4", "(D(C12)) 4", "(!(!(!(!(!(!1)))))) 7", "(G(G1)) 7"};
        for (String row : rows) {
            String[] parts = row.split(" ");
            int steps = Integer.parseInt(parts[1]);
            x.check(parts[0]);
            for (int fewer = 0; fewer < steps; fewer++) {
                DUE.same(parts[0] + " of " + fewer, x.run(fewer) + " " + x.steps() + " " + x.result(), "0 " + fewer + " -1");
            }
            for (int more : new int[] {steps, steps + 1, 1000}) {
                DUE.same(parts[0] + " of " + more, x.run(more) + " " + x.steps() + " " + (x.result() >= 0), "1 " + steps + " true");
            }
        }
    }

    /** The operands are there first: it fails with the last step, and has not ended one step before. */
    private static void failuresAtTheLastStep() {
        Session x = new Session();
        String[] rows = {"(A1) 2", "(D.) 2", "(+#1) 3", "(+1#) 3", "(-.1) 3", "(-1.) 3", "(<~1) 3", "(<1~) 3", "(+#(N1)) 4",
            "(C(A1)2) 3", "(?(A1)23) 3", "(&#(A1)) 4", "(|~(A1)) 4", "(:c(A1)2) 3", "(N(A1)) 3"};
        for (String row : rows) {
            String[] parts = row.split(" ");
            int steps = Integer.parseInt(parts[1]);
            x.check(parts[0]);
            DUE.same(parts[0] + " a step before", x.ran(steps - 1), "0 " + (steps - 1) + " -1 13");
            DUE.same(parts[0], x.ran(steps), "2 " + steps + " -1 13");
            DUE.same(parts[0] + " with more", x.ran(1000), "2 " + steps + " -1 13");
        }
        x.define("Gcn(+c1)");
        DUE.same("a function is no operation", x.check("(G#)"), Session.OPERATION);
        DUE.same("it fails in it", x.ran(4), "0 4 -1 13");
        DUE.same("by the sum", x.ran(5), "2 5 -1 13");
        x.define("Hcnc");
        DUE.same("a wrong type", x.check("(H#)"), Session.OPERATION);
        DUE.same("it does not fail by that", x.ran(9), "1 3 0 13");
    }

    /** "A, D to pairs; +, -, < to numbers": each of each kind, and the others never fail. */
    private static void operandsThatFail() {
        Session x = new Session();
        x.define("Gc*c");
        x.pair(4, 5);
        int[] cells = {3, 0, 1, 2, 13};
        int[] kinds = {1, 2, 4, 8, 16};
        for (int i = 0; i < cells.length; i++) {
            x.input(0, cells[i]);
            for (String text : new String[] {"(Aa)", "(Da)"}) {
                x.check(text);
                DUE.same(text + " of " + kinds[i], x.run(9), kinds[i] == 16 ? "1" : "2");
            }
            for (String text : new String[] {"(+a1)", "(+1a)", "(-a1)", "(-1a)", "(<a1)", "(<1a)"}) {
                x.check(text);
                DUE.same(text + " of " + kinds[i], x.run(9), kinds[i] == 1 ? "1" : "2");
            }
            for (String text : new String[] {"a", "(Na)", "(Ba)", "(Ea)", "(Pa)", "(!a)", "(Caa)", "(?aaa)", "(&aa)", "(|aa)",
                "(:cac)", "(Ga)"}) {
                x.check(text);
                DUE.same(text + " of " + kinds[i], x.run(9), "1");
            }
        }
    }

    /** G makes 7. With 40 made there is room for 11, with 39 for 12. */
    private static void sixtyFourCells() {
        Session x = new Session();
        fill(x, 39);
        x.define("Gc*(C(C(Ccc)(Ccc))(C(Ccc)(Ccc)))");
        String ten = "(C(Ga)(C1(C23)))";
        String eleven = "(C(Ga)(C1(C2(C34))))";
        String twelve = "(C(Ga)(C1(C2(C3(C45)))))";
        ran(x, eleven, "1 25 62 63");
        ran(x, twelve, "1 27 63 64");
        DUE.same("the 40th", x.number(1), "52");
        ran(x, ten, "1 23 62 63");
        ran(x, eleven, "1 25 63 64");
        DUE.same("the 64th", cell(x, 63).substring(0, 4) + x.cell(64, 0), "16 0" + Session.INDEX);
        ran(x, twelve, "3 27 -1 64");
        ran(x, "(C" + ten + "(A1))", "2 26 -1 63");
        ran(x, "(C" + eleven + "(C1(A1)))", "2 30 -1 64");
        ran(x, "(C" + eleven + "(C1(C2(A1))))", "2 32 -1 64");
        ran(x, "(C" + eleven + "(C(C12)(A1)))", "3 30 -1 64");
        for (String operation : new String[] {"C", "+", "-"}) {
            ran(x, "(" + operation + "(:c" + ten + "1)2)", "1 27 63 64");
            ran(x, "(" + operation + "(:c" + eleven + "1)2)", "3 29 -1 64");
        }
        ran(x, "(<(:c" + eleven + "1)2)", "1 29 0 64");
        ran(x, "(P" + eleven + ")", "1 26 0 64");
        x.check(twelve);
        DUE.same("a step before: G has made its 7", x.ran(26), "0 26 -1 60");
        DUE.same("the full ones are gone", x.ran(0), "0 0 -1 53");
    }

    /** Without cells of number and pair a run may make 51. */
    private static void sixtyFourCellsOfARun() {
        Session x = new Session();
        x.define("Gc*(C(C(Ccc)(Ccc))(C(Ccc)(Ccc)))");
        x.define("Hc*(C(Gc)(Gc))");
        x.define("Ic*(C(Hc)(Hc))");
        ran(x, "(C(Ia)(Ha))", "1 115 59 60");
        ran(x, "(C(C(Ia)(Ha))(C1(C23)))", "1 121 62 63");
        ran(x, "(C(C(Ia)(Ha))(C1(C2(C34))))", "1 123 63 64");
        ran(x, "(C(C(Ia)(Ha))(C1(C2(C3(C45)))))", "3 125 -1 64");
        ran(x, "(C(Ia)(Ia))", "3 138 -1 64");
        DUE.same("there is room for the next", x.number(3) + " " + x.count(), "13 14");
        ran(x, "(C(C(Ia)(Ha))(C1(C2(C34))))", "3 123 -1 64");
        ran(x, "(C(C(Ia)(Ha))(C1(C23)))", "1 121 63 64");
    }

    /** An operation of something else makes no cell, so that it fails by that. */
    private static void theFailureThatComesFirst() {
        Session x = new Session();
        fill(x, 40);
        x.define("Gc*(C(C(Ccc)(Ccc))(C(Ccc)(Ccc)))");
        String eleven = "(:c(C(Ga)(C1(C2(C34))))1)";
        for (String operation : new String[] {"+", "-"}) {
            ran(x, "(" + operation + eleven + "#)", "2 29 -1 64");
            ran(x, "(" + operation + eleven + "2)", "3 29 -1 64");
        }
        ran(x, "(<" + eleven + "#)", "2 29 -1 64");
        ran(x, "(A" + eleven + ")", "2 28 -1 64");
    }

    private static void goneWhenARunBegins() {
        Session x = new Session();
        x.number(1);
        ran(x, "(C(C12)3)", "1 5 15 16");
        DUE.same("again", x.ran(1000), "1 5 15 16");
        DUE.same("refused runs begin none", x.run(-1) + x.run(1001) + x.count() + x.result(), Session.ARGUMENT.repeat(2) + "1615");
        DUE.same("a run of no step", x.ran(0), "0 0 -1 14");
        DUE.same("they are gone", x.cell(13, 0) + x.cell(14, 0), "1" + Session.INDEX);
        DUE.same("a run of four steps", x.ran(4), "0 4 -1 15");
        DUE.same("a run of three", x.ran(3), "0 3 -1 14");
        ran(x, "7", "1 1 10 14");
    }

    /** "Those made by a run are gone", also where the run had no value. */
    private static void goneWhenACellIsMade() {
        Session x = new Session();
        x.check("(C(C12)(C34))");
        DUE.same("not ended", x.ran(6), "0 6 -1 14");
        DUE.same("a number", x.number(7) + " " + x.count() + " " + cell(x, 13), "13 14 1 7 -1 -1");
        DUE.same("ended", x.ran(7), "1 7 16 17");
        DUE.same("a pair", x.pair(13, 13) + " " + x.count() + " " + cell(x, 14), "14 15 16 0 13 13");
        x.check("(C(C12)(A1))");
        DUE.same("failed", x.ran(9), "2 6 -1 16");
        DUE.same("a number behind it", x.number(8) + " " + x.count(), "15 16");
        DUE.same("the run's is gone", x.cell(16, 0), Session.INDEX);
    }

    /** "-1 if it has none, or there was none since cells were made or cleared." */
    private static void resultsThatThereAre() {
        Session x = new Session();
        DUE.same("no run", x.result(), -1);
        x.check("9");
        DUE.same("no run of it", x.result(), -1);
        DUE.same("not ended", x.run(0) + x.result(), "0-1");
        DUE.same("ended", x.run(1) + x.result(), "112");
        DUE.same("a number", x.number(1) + x.result(), "13-1");
        DUE.same("run again", x.run(1) + x.result(), "112");
        DUE.same("no pair", x.pair(99, 1) + x.result(), Session.ARGUMENT + 12);
        DUE.same("a pair", x.pair(9, 1) + x.result(), "14-1");
        DUE.same("and again", x.run(1) + x.result(), "112");
        DUE.same("no run", x.run(1001) + x.result(), Session.ARGUMENT + 12);
        x.clear();
        DUE.same("cleared", x.result(), -1);
        x.run(1);
        DUE.same("an input", x.input(0, 4) + x.result(), Session.DONE + 12);
        DUE.same("another at hand", x.check("(A1)") + x.result(), Session.OPERATION + 12);
        DUE.same("failed by an operation", x.run(9) + x.result(), "2-1");
        ran(x, "~", "1 1 1 13");
        x.forget();
        DUE.same("forgotten", x.result(), 1);
        ran(x, "#", "1 1 0 13");
    }

    /** "0 if there was none." */
    private static void stepsOfTheLatestRun() {
        Session x = new Session();
        DUE.same("no run", x.steps(), 0);
        DUE.same("a run that is refused", x.run(5) + x.steps(), Session.ELEMENT + 0);
        ran(x, "(C12)", "1 3 13 14");
        x.number(1);
        x.clear();
        x.forget();
        x.wipe();
        DUE.same("others leave it", x.steps(), 3);
        DUE.same("a refused run leaves it", x.run(5) + x.steps(), Session.ELEMENT + 3);
        x.check("(!(!1))");
        DUE.same("a check leaves it", x.run(-1) + x.steps(), Session.ARGUMENT + 3);
        DUE.same("the latest", x.run(2) + x.steps(), "02");
        DUE.same("of no step", x.run(0) + x.steps(), "00");
        DUE.same("of a failure", x.check("(C(A1)2)") + x.run(9) + x.steps(), Session.OPERATION + "23");
    }
}
