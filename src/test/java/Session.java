import java.util.NoSuchElementException;

/** An object of TypedLisp whose answers are texts: the value, or the simple name of what was thrown. */
final class Session {
    static final String ARGUMENT = "IllegalArgumentException";
    static final String OPERATION = "UnsupportedOperationException";
    static final String STATE = "IllegalStateException";
    static final String INDEX = "IndexOutOfBoundsException";
    static final String ELEMENT = "NoSuchElementException";
    static final String DONE = "done";

    private final TypedLisp lisp = new TypedLisp();
    private int calls = 0;

    private interface Call {
        Object make();
    }

    /** Only what the face declares is an answer; an exception of the machine itself ends the test. */
    private static String answer(Call call) {
        try {
            return String.valueOf(call.make());
        } catch (IllegalArgumentException | UnsupportedOperationException | IllegalStateException
            | IndexOutOfBoundsException | NoSuchElementException e) {
            String name = e.getClass().getSimpleName();
            if (e.getStackTrace().length == 0 || !e.getStackTrace()[0].getClassName().startsWith("TypedLisp")) {
                throw e;
            }
            return name;
        }
    }

    private TypedLisp called() {
        calls++;
        return lisp;
    }

    /** How many calls the object has answered since it was made; each character that was typed is one. */
    int calls() {
        return calls;
    }

    Session text(String s) {
        called().wipe();
        for (int i = 0; i < s.length(); i++) {
            called().type(s.charAt(i));
        }
        return this;
    }

    String check(String s) {
        return text(s).check();
    }

    String define(String s) {
        return text(s).define();
    }

    /** What it threw and where; or its type. */
    String checked(String s) {
        return withFault(check(s));
    }

    String defined(String s) {
        return withFault(define(s));
    }

    private String withFault(String answer) {
        return called().fault() == -1 ? answer : answer + "@" + called().fault();
    }

    /** What a view says of an input with all letters. */
    String viewOf(boolean yes, int input) {
        StringBuilder all = new StringBuilder();
        for (int letters = 0; letters < 7; letters++) {
            all.append(letters == 0 ? "" : " ").append(view(yes, input, letters));
        }
        return all.toString();
    }

    /** How a run ended, its steps, its result, and how many cells there are. */
    String ran(int steps) {
        return run(steps) + " " + steps() + " " + result() + " " + count();
    }

    /** A cell as a text: 5, #, ~, . or (5 .), for a pair of 5 and EMPTY. */
    String written(int i) {
        switch (cell(i, 0)) {
            case "1":
                return cell(i, 1);
            case "2":
                return "#";
            case "4":
                return "~";
            case "8":
                return ".";
            default:
                return "(" + written(Integer.parseInt(cell(i, 2))) + " " + written(Integer.parseInt(cell(i, 3))) + ")";
        }
    }

    boolean type(char c) {
        return called().type(c);
    }

    void wipe() {
        called().wipe();
    }

    String define() {
        return answer(called()::define);
    }

    String check() {
        return answer(called()::check);
    }

    int fault() {
        return called().fault();
    }

    String view(boolean yes, int input, int letters) {
        return answer(() -> called().view(yes, input, letters));
    }

    void forget() {
        called().forget();
    }

    String number(int v) {
        return answer(() -> called().number(v));
    }

    String pair(int first, int second) {
        return answer(() -> called().pair(first, second));
    }

    String input(int which, int cell) {
        return answer(() -> {
            called().input(which, cell);
            return DONE;
        });
    }

    void clear() {
        called().clear();
    }

    String run(int steps) {
        return answer(() -> called().run(steps));
    }

    int steps() {
        return called().steps();
    }

    int result() {
        return called().result();
    }

    int count() {
        return called().count();
    }

    String cell(int i, int what) {
        return answer(() -> called().cell(i, what));
    }
}
