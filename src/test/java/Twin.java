import java.util.NoSuchElementException;
import java.util.function.Supplier;

/** A TypedLisp and a Model that get the same calls: each answer of the one is due from the other. */
final class Twin {
    private final Due due;
    private final TypedLisp lisp = new TypedLisp();
    private final Model model = new Model();
    private int calls = 0;
    private String text = "";

    Twin(Due due) {
        this.due = due;
    }

    private static String answer(Supplier<Object> call) {
        try {
            return String.valueOf(call.get());
        } catch (IllegalArgumentException | UnsupportedOperationException | IllegalStateException
            | IndexOutOfBoundsException | NoSuchElementException e) {
            return e.getClass().getSimpleName();
        }
    }

    private static Supplier<Object> done(Runnable call) {
        return () -> {
            call.run();
            return Session.DONE;
        };
    }

    private String same(String what, Supplier<Object> got, Supplier<Object> want) {
        calls++;
        String answer = answer(got);
        due.same(text + " then " + what + ", call " + calls, answer, answer(want));
        return answer;
    }

    /** How many calls each of them has answered. */
    int calls() {
        return calls;
    }

    /** What was typed since the latest wipe, with what was refused. */
    String text() {
        return text;
    }

    void write(String s) {
        wipe();
        for (int i = 0; i < s.length(); i++) {
            type(s.charAt(i));
        }
    }

    String type(char c) {
        text += c;
        return same("type", () -> lisp.type(c), () -> model.type(c));
    }

    String wipe() {
        text = "";
        return same("wipe", done(lisp::wipe), done(model::wipe));
    }

    String define() {
        return same("define", lisp::define, model::define);
    }

    String check() {
        return same("check", lisp::check, model::check);
    }

    int fault() {
        return Integer.parseInt(same("fault", lisp::fault, model::fault));
    }

    String view(boolean yes, int input, int letters) {
        return same("view", () -> lisp.view(yes, input, letters), () -> model.view(yes, input, letters));
    }

    String forget() {
        return same("forget", done(lisp::forget), done(model::forget));
    }

    String number(int v) {
        return same("number", () -> lisp.number(v), () -> model.number(v));
    }

    String pair(int first, int second) {
        return same("pair", () -> lisp.pair(first, second), () -> model.pair(first, second));
    }

    String input(int which, int cell) {
        return same("input", done(() -> lisp.input(which, cell)), done(() -> model.input(which, cell)));
    }

    String clear() {
        return same("clear", done(lisp::clear), done(model::clear));
    }

    String run(int steps) {
        return same("run", () -> lisp.run(steps), () -> model.run(steps));
    }

    int steps() {
        return Integer.parseInt(same("steps", lisp::steps, model::steps));
    }

    int result() {
        return Integer.parseInt(same("result", lisp::result, model::result));
    }

    int count() {
        return Integer.parseInt(same("count", lisp::count, model::count));
    }

    String cell(int i, int what) {
        return same("cell", () -> lisp.cell(i, what), () -> model.cell(i, what));
    }
}
