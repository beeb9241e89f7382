import java.util.NoSuchElementException;
import java.util.function.Supplier;

/** All promises: made-up runs of calls against the model, and what the checker's word is worth. */
public final class ModelTest {
    private static final Due DUE = new Due();
    private static final int RUNS = 400;
    private static final int CALLS = 512;

    private TypedLisp lisp = new TypedLisp();
    private Model model = new Model();
    private final Writer writer;
    private String trail = "";

    private ModelTest(int seed) {
        writer = new Writer(seed);
    }

    public static void main(String[] args) {
        for (int run = 0; run < RUNS; run++) {
            new ModelTest(run).callsOfAllSorts();
        }
        for (int run = 0; run < RUNS; run++) {
            new ModelTest(RUNS + run).expressions();
        }
        for (int run = 0; run < RUNS; run++) {
            new ModelTest(2 * RUNS + run).walks();
        }
        DUE.end();
    }

    private static String answer(Supplier<Object> call) {
        try {
            return String.valueOf(call.get());
        } catch (IllegalArgumentException | UnsupportedOperationException | IllegalStateException
            | IndexOutOfBoundsException | NoSuchElementException e) {
            return e.getClass().getSimpleName();
        }
    }

    private String same(String what, Supplier<Object> got, Supplier<Object> want) {
        String answer = answer(got);
        DUE.same(trail + " then " + what, answer, answer(want));
        return answer;
    }

    private void write(String text) {
        lisp.wipe();
        model.wipe();
        trail = text;
        for (char c : text.toCharArray()) {
            same("type " + c, () -> lisp.type(c), () -> model.type(c));
        }
    }

    private void callsOfAllSorts() {
        for (int i = 0; i < CALLS; i++) {
            oneCall();
            same("fault", lisp::fault, model::fault);
            same("steps", lisp::steps, model::steps);
            same("result", lisp::result, model::result);
            same("count", lisp::count, model::count);
        }
    }

    private void oneCall() {
        int one = writer.below(70) - 3;
        int two = writer.below(9) - 1;
        boolean yes = writer.below(2) == 0;
        switch (writer.below(24)) {
            case 0:
                same("number", () -> lisp.number(one * 99), () -> model.number(one * 99));
                break;
            case 1:
                same("pair", () -> lisp.pair(one, two + 9), () -> model.pair(one, two + 9));
                break;
            case 2:
            case 3:
                same("input", () -> done(() -> lisp.input(two / 3, one)), () -> done(() -> model.input(two / 3, one)));
                break;
            case 4:
                if (writer.below(12) == 0) {
                    lisp.clear();
                    model.clear();
                }
                break;
            case 5:
                if (writer.below(4) == 0) {
                    lisp.forget();
                    model.forget();
                }
                break;
            case 6:
            case 7:
            case 8:
                same("cell", () -> lisp.cell(one, two / 2), () -> model.cell(one, two / 2));
                break;
            case 9:
            case 10:
            case 11:
                same("view", () -> lisp.view(yes, two / 3, two), () -> model.view(yes, two / 3, two));
                break;
            case 12:
            case 13:
            case 14:
                same("run", () -> lisp.run(one - 2), () -> model.run(one - 2));
                break;
            case 15:
                same("run", () -> lisp.run(one * 20), () -> model.run(one * 20));
                break;
            case 16:
            case 17:
                write(writer.definition());
                same("define", lisp::define, model::define);
                break;
            case 18:
                write(writer.spoilt());
                same("define", lisp::define, model::define);
                same("check", lisp::check, model::check);
                break;
            default:
                write(writer.expression());
                same("check", lisp::check, model::check);
        }
    }

    private static String done(Runnable call) {
        call.run();
        return "done";
    }

    /** Goes on with what may follow, whatever that is, so that the texts get as long and as deep as they can. */
    private void walks() {
        for (int k = writer.below(3); k > 0; k--) {
            write(writer.definition());
            same("define", lisp::define, model::define);
        }
        boolean defining = writer.below(3) == 0;
        String text = "";
        for (int i = 0; i < 300 && text.length() < 60; i++) {
            write(text + writer.character());
            same("read", defining ? lisp::define : lisp::check, defining ? model::define : model::check);
            same("fault", lisp::fault, model::fault);
            if (model.fault() == trail.length()) {
                text = trail;
            }
        }
    }

    private void expressions() {
        for (int i = 0; i < 20; i++) {
            lisp.forget();
            model.forget();
            for (int k = writer.below(4); k > 0; k--) {
                write(writer.definition());
                same("define", lisp::define, model::define);
            }
            for (int k = 0; k < 10; k++) {
                write(writer.expression());
                String type = same("check", lisp::check, model::check);
                same("fault", lisp::fault, model::fault);
                allViews();
                if (type.length() < 3) {
                    keepsItsWord(Integer.parseInt(type));
                }
            }
        }
    }

    private void allViews() {
        for (int k = 0; k < 28; k++) {
            int letters = k % 7;
            int input = k / 7 % 2;
            boolean yes = k < 14;
            same("view", () -> lisp.view(yes, input, letters), () -> model.view(yes, input, letters));
        }
    }

    /** What was accepted never fails by an operation, and its value is of the type that was told. */
    private void keepsItsWord(int type) {
        lisp.clear();
        model.clear();
        for (int i = 0; i < 12; i++) {
            int first = writer.below(13 + i);
            int second = writer.below(13 + i);
            lisp.pair(first, second);
            model.pair(first, second);
        }
        for (int i = 0; i < 12; i++) {
            int a = writer.below(25);
            int b = writer.below(25);
            lisp.input(0, a);
            lisp.input(1, b);
            model.input(0, a);
            model.input(1, b);
            String ending = same("run", () -> lisp.run(1000), () -> model.run(1000));
            DUE.same(trail + " of " + a + ", " + b + " fails by an operation", ending.equals("2"), false);
            if (lisp.result() >= 0) {
                int kind = lisp.cell(lisp.result(), 0);
                DUE.same(trail + " of " + a + ", " + b + " is of its type", kind & type, kind);
                viewIsTrue(kind != 4, 0, a);
                viewIsTrue(kind != 4, 1, b);
            }
        }
    }

    private void viewIsTrue(boolean yes, int input, int cell) {
        int[] reached = {cell, half(cell, 2), half(cell, 3), half(half(cell, 2), 2), half(half(cell, 2), 3),
            half(half(cell, 3), 2), half(half(cell, 3), 3)};
        for (int letters = 0; letters < 7; letters++) {
            if (reached[letters] >= 0) {
                int kind = lisp.cell(reached[letters], 0);
                int said = lisp.view(yes, input, letters);
                DUE.same(trail + " view " + yes + input + letters + " of " + cell, said == -1 ? 0 : said & kind, kind);
            }
        }
    }

    private int half(int cell, int which) {
        return cell < 0 ? -1 : lisp.cell(cell, which);
    }
}
