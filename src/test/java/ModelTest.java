/**
 * All promises: made-up calls against a second writing of the document; and what the first line of
 * the document promises, that what was accepted never fails by an operation.
 */
public final class ModelTest {
    private static final Due DUE = new Due();
    private static final int RUNS = 400;
    private static final int CALLS = 512;
    /** In a Z of these, what c remembers and what is known already leave little or nothing that can be. */
    private static final String[] NARROW = {"(:c(?(Na)1~)(?(&(Nc)(Pa))Z3))", "(:c(Na)(?(Pa)Z3))", "(:c(|(Na)(Pb))(?(&(Pa)(Nb))Z.))",
        "(:c(!a)(&aZ))", "(?(Na)(:c(Pa)Z)b)", "(:c(&(Pa)(P(Aa)))(|cZ))"};

    private final Twin twin = new Twin(DUE);
    private final Writer writer;

    private ModelTest(int seed) {
        writer = new Writer(seed);
    }

    public static void main(String[] args) {
        for (int run = 0; run < RUNS; run++) {
            new ModelTest(run).callsOfAllSorts();
        }
        for (int run = 0; run < RUNS; run++) {
            new ModelTest(RUNS + run).expressions();
        }
        for (int run = 0; run < RUNS; run++) {
            new ModelTest(2 * RUNS + run).walks();
        }
        for (int run = 0; run < RUNS; run++) {
            new ModelTest(3 * RUNS + run).narrowViews();
        }
        DUE.end();
    }

    private void callsOfAllSorts() {
        for (int i = 0; i < CALLS; i++) {
            oneCall();
            twin.fault();
            twin.steps();
            twin.result();
            twin.count();
        }
    }

    private void oneCall() {
        int one = writer.below(70) - 3;
        int two = writer.below(9) - 1;
        boolean yes = writer.below(2) == 0;
        switch (writer.below(24)) {
            case 0:
                twin.number(one * 99);
                break;
            case 1:
                twin.pair(one, two + 9);
                break;
            case 2:
            case 3:
                twin.input(two / 3, one);
                break;
            case 4:
                if (writer.below(12) == 0) {
                    twin.clear();
                }
                break;
            case 5:
                if (writer.below(4) == 0) {
                    twin.forget();
                }
                break;
            case 6:
            case 7:
            case 8:
                twin.cell(one, two / 2);
                break;
            case 9:
            case 10:
            case 11:
                twin.view(yes, two / 3, two);
                break;
            case 12:
            case 13:
            case 14:
                twin.run(one - 2);
                break;
            case 15:
                twin.run(one * 20);
                break;
            case 16:
            case 17:
                twin.write(writer.definition());
                twin.define();
                break;
            case 18:
                twin.write(writer.spoilt());
                twin.define();
                twin.check();
                break;
            default:
                twin.write(writer.expression());
                twin.check();
        }
    }

    /** Goes on with what may follow, whatever that is, so that the texts get as long and as deep as they can. */
    private void walks() {
        for (int k = writer.below(3); k > 0; k--) {
            twin.write(writer.definition());
            twin.define();
        }
        boolean defining = writer.below(3) == 0;
        String text = "";
        for (int i = 0; i < 300 && text.length() < 60; i++) {
            twin.write(text + writer.character());
            if (defining) {
                twin.define();
            } else {
                twin.check();
            }
            if (twin.fault() == twin.text().length()) {
                text = twin.text();
            }
        }
    }

    private void expressions() {
        for (int i = 0; i < 20; i++) {
            twin.forget();
            for (int k = writer.below(4); k > 0; k--) {
                twin.write(writer.definition());
                twin.define();
            }
            for (int k = 0; k < 10; k++) {
                twin.write(writer.expression());
                String type = twin.check();
                twin.fault();
                allViews();
                if (type.length() < 3) {
                    keepsItsWord(Integer.parseInt(type));
                }
            }
        }
    }

    /** Types of 0, impossible views and what is not checked are rare in texts that are made up freely. */
    private void narrowViews() {
        twin.write(writer.definition());
        twin.define();
        for (int i = 0; i < 200; i++) {
            String part = writer.part("abcc", 1 + writer.below(4)).replace("7", "(?c#.)").replace("8", "(?c#.)");
            String text = NARROW[writer.below(NARROW.length)].replace("Z", part);
            if (text.length() <= 60) {
                twin.write(text);
                String type = twin.check();
                twin.fault();
                if (type.length() < 3) {
                    allViews();
                }
            }
        }
    }

    private void allViews() {
        for (int k = 0; k < 28; k++) {
            twin.view(k < 14, k / 7 % 2, k % 7);
        }
    }

    /** What was accepted never fails by an operation, and its value is of the type that was told. */
    private void keepsItsWord(int type) {
        twin.clear();
        for (int i = 0; i < 12; i++) {
            twin.pair(writer.below(13 + i), writer.below(13 + i));
        }
        for (int i = 0; i < 12; i++) {
            int a = writer.below(25);
            int b = writer.below(25);
            twin.input(0, a);
            twin.input(1, b);
            String ending = twin.run(1000);
            String what = twin.text() + " of " + a + ", " + b;
            DUE.same(what + " fails by an operation", ending.equals("2"), false);
            int result = twin.result();
            if (result >= 0) {
                int kind = kindOf(result);
                DUE.same(what + " is of its type", kind & type, kind);
                viewIsTrue(kind != 4, 0, a);
                viewIsTrue(kind != 4, 1, b);
            }
        }
    }

    private void viewIsTrue(boolean yes, int input, int cell) {
        int[] reached = {cell, half(cell, 2), half(cell, 3), half(half(cell, 2), 2), half(half(cell, 2), 3),
            half(half(cell, 3), 2), half(half(cell, 3), 3)};
        for (int letters = 0; letters < 7; letters++) {
            if (reached[letters] >= 0) {
                int kind = kindOf(reached[letters]);
                int said = Integer.parseInt(twin.view(yes, input, letters));
                DUE.same(twin.text() + " view " + yes + input + letters + " of " + cell, said == -1 ? 0 : said & kind, kind);
            }
        }
    }

    private int kindOf(int cell) {
        return Integer.parseInt(twin.cell(cell, 0));
    }

    private int half(int cell, int which) {
        return cell < 0 ? -1 : Integer.parseInt(twin.cell(cell, which));
    }
}
