/**
 * All promises, in the whole life of an object: long definitions and long expressions that use them, one after the
 * other, what they find and how they run, against a second writing of the document; to the 512th call and no further.
 */
public final class LifeTest {
    private static final Due DUE = new Due();
    private static final int LIVES = 600;
    private static final int CALLS = 512;

    private final Twin twin = new Twin(DUE);
    private final Writer writer;
    private final Grower grower;
    private final int expressionsBeforeForgetting;
    private int longTexts = 0;

    private LifeTest(int seed) {
        writer = new Writer(seed);
        grower = new Grower(writer);
        expressionsBeforeForgetting = seed % 3 == 0 ? 2 : CALLS;
    }

    public static void main(String[] args) {
        int longTexts = 0;
        for (int life = 0; life < LIVES; life++) {
            LifeTest test = new LifeTest(7000 + life);
            test.live();
            DUE.same("calls of life " + life, test.twin.calls(), CALLS);
            longTexts += test.longTexts;
        }
        DUE.same("at least 5 long texts in a life", longTexts >= 5 * LIVES, true);
        DUE.end();
    }

    private void live() {
        defineSome();
        makeCells();
        int expressions = 0;
        while (twin.calls() < CALLS) {
            readExpression();
            expressions++;
            if (expressions == expressionsBeforeForgetting && hasRoom(1)) {
                twin.forget();
                grower.forget();
                defineSome();
            }
        }
    }

    private boolean hasRoom(int calls) {
        return twin.calls() + calls <= CALLS;
    }

    private void defineSome() {
        String names = new String[] {"GHI", "HGI", "IHG", "HI", "GI", "I"}[writer.below(6)];
        for (int i = 0; i < names.length(); i++) {
            write(grower.definition(names.charAt(i)));
            ask(twin::define);
            ask(twin::fault);
        }
    }

    private void ask(Runnable call) {
        if (hasRoom(1)) {
            call.run();
        }
    }

    private void write(String text) {
        longTexts += text.length() >= 50 && hasRoom(text.length() + 2) ? 1 : 0;
        ask(twin::wipe);
        for (int i = 0; i < text.length(); i++) {
            char c = text.charAt(i);
            ask(() -> twin.type(c));
        }
    }

    private void makeCells() {
        for (int i = 0; i < 8; i++) {
            int first = writer.below(14 + i);
            int second = writer.below(14 + i);
            ask(() -> twin.number(first * second - 20));
            ask(() -> twin.pair(first, second));
        }
    }

    /** One in four is spoilt: it is no expression then, or one that is not accepted, or another one. */
    private void readExpression() {
        String text = grower.expression();
        if (writer.below(4) == 0) {
            int at = writer.below(text.length());
            text = text.substring(0, at) + writer.pick("ab1#~.(C+A)") + text.substring(at + 1);
        }
        write(text);
        String[] type = {""};
        ask(() -> type[0] = twin.check());
        ask(twin::fault);
        someViews();
        for (int i = 0; i < 3; i++) {
            runOnce(type[0].length() == 1 || type[0].length() == 2);
        }
    }

    private void someViews() {
        for (int i = 0; i < 6; i++) {
            boolean yes = i < 3;
            int input = writer.below(2);
            int letters = writer.below(7);
            ask(() -> twin.view(yes, input, letters));
        }
    }

    private void runOnce(boolean accepted) {
        for (int input = 0; input < 2; input++) {
            int which = input;
            int cell = writer.below(32);
            ask(() -> twin.input(which, cell));
        }
        int steps = writer.below(3) == 0 ? writer.below(40) : 1000;
        String text = twin.text();
        ask(() -> DUE.same(text + " fails by an operation", twin.run(steps).equals("2") && accepted, false));
        ask(twin::steps);
        ask(twin::count);
        int[] result = {-1};
        ask(() -> result[0] = twin.result());
        for (int what = 0; what < 4 && result[0] >= 13; what++) {
            int asked = what;
            ask(() -> twin.cell(result[0], asked));
        }
    }
}
