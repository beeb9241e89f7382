import java.util.NoSuchElementException;

/** An object of TypedLisp whose answers are texts: the value, or the simple name of what was thrown. */
final class Session {
    static final String ARGUMENT = "IllegalArgumentException";
    static final String OPERATION = "UnsupportedOperationException";
    static final String STATE = "IllegalStateException";
    static final String INDEX = "IndexOutOfBoundsException";
    static final String ELEMENT = "NoSuchElementException";
    static final String DONE = "done";

    private final TypedLisp lisp = new TypedLisp();

    private interface Call {
        Object make();
    }

    /** Only what the face declares is an answer; an exception of the machine itself ends the test. */
    private static String answer(Call call) {
        try {
            return String.valueOf(call.make());
        } catch (IllegalArgumentException | UnsupportedOperationException | IllegalStateException
            | IndexOutOfBoundsException | NoSuchElementException e) {
            String name = e.getClass().getSimpleName();
            if (e.getStackTrace().length == 0 || !e.getStackTrace()[0].getClassName().startsWith("TypedLisp")) {
                throw e;
            }
            return name;
        }
    }

    Session text(String s) {
        lisp.wipe();
        for (int i = 0; i < s.length(); i++) {
            lisp.type(s.charAt(i));
        }
        return this;
    }

    String check(String s) {
        return text(s).check();
    }

    String define(String s) {
        return text(s).define();
    }

    /** What it threw and where; or its type. */
    String checked(String s) {
        return withFault(check(s));
    }

    String defined(String s) {
        return withFault(define(s));
    }

    private String withFault(String answer) {
        return lisp.fault() == -1 ? answer : answer + "@" + lisp.fault();
    }

    /** What a view says of an input with all letters. */
    String viewOf(boolean yes, int input) {
        StringBuilder all = new StringBuilder();
        for (int letters = 0; letters < 7; letters++) {
            all.append(letters == 0 ? "" : " ").append(view(yes, input, letters));
        }
        return all.toString();
    }

    /** How a run ended, its steps, its result, and how many cells there are. */
    String ran(int steps) {
        return run(steps) + " " + steps() + " " + result() + " " + count();
    }

    boolean type(char c) {
        return lisp.type(c);
    }

    void wipe() {
        lisp.wipe();
    }

    String define() {
        return answer(lisp::define);
    }

    String check() {
        return answer(lisp::check);
    }

    int fault() {
        return lisp.fault();
    }

    String view(boolean yes, int input, int letters) {
        return answer(() -> lisp.view(yes, input, letters));
    }

    void forget() {
        lisp.forget();
    }

    String number(int v) {
        return answer(() -> lisp.number(v));
    }

    String pair(int first, int second) {
        return answer(() -> lisp.pair(first, second));
    }

    String input(int which, int cell) {
        return answer(() -> {
            lisp.input(which, cell);
            return DONE;
        });
    }

    void clear() {
        lisp.clear();
    }

    String run(int steps) {
        return answer(() -> lisp.run(steps));
    }

    int steps() {
        return lisp.steps();
    }

    int result() {
        return lisp.result();
    }

    int count() {
        return lisp.count();
    }

    String cell(int i, int what) {
        return answer(() -> lisp.cell(i, what));
    }
}
