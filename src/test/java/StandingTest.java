/**
 * What stands after a call: a refused one changes nothing but what the document says, and one that is not refused
 * changes what it is for alone. Two objects have the same past; one of them makes the call; then both are asked for
 * all that they can tell.
 */
public final class StandingTest {
    private static final Due DUE = new Due();
    private static final String SIXTY = "(?(?(?111)(?111)(?111))(?(?111)(?111)1)(?(?111)(?111)(+11)))";

    private interface Past {
        void make(Session x);
    }

    private interface Refused {
        String make(Session x);
    }

    public static void main(String[] args) {
        refusedInANewObject();
        refusedInAFullObject();
        refusedWhereNothingIsAccepted();
        refusedBehindARunThatHasNotEnded();
        definitionsThatThrow();
        checksThatThrow();
        aRefusedExpressionIsAtHand();
        askingChangesNothing();
        whatWipeLeaves();
        whatForgetLeaves();
        whatClearLeaves();
        theLastOfItsCalls();
        DUE.end();
    }

    private static void empty(Session x) {
        x.wipe();
    }

    /** 60 characters, two functions, an accepted expression with a value, 40 cells. */
    private static void full(Session x) {
        x.define("Gc*(C(Nc)c)");
        x.define("Icl(Pc)");
        for (int i = 0; i < 39; i++) {
            x.number(1000 - i);
        }
        x.pair(51, 13);
        x.input(0, 52);
        x.input(1, 20);
        x.check("(?(Pa)(C(G(Aa))b)(C(+12)3))");
        x.run(100);
        x.text(SIXTY);
    }

    /** An expression that is not accepted, a run that failed, a text that does not end. */
    private static void failing(Session x) {
        x.define("Hcn(-c1)");
        x.number(8);
        x.pair(13, 2);
        x.input(1, 14);
        x.check("(C(C1b)(H(Ab)))");
        x.run(50);
        x.check("(C(C1b)(Ha))");
        x.run(50);
        x.text("(H");
    }

    private static void halfway(Session x) {
        x.number(5);
        x.input(0, 13);
        x.check("(C(C(Cab)a)(Cba))");
        x.run(6);
        x.text("Gc*(Nc)");
    }

    /** All that can be asked without changing anything. */
    private static String seen(Session x, boolean withFault) {
        StringBuilder all = new StringBuilder();
        all.append(withFault ? x.fault() : 0).append(' ').append(x.steps()).append(' ').append(x.result());
        for (int i = 0; i < x.count(); i++) {
            for (int what = 0; what < 4; what++) {
                all.append(' ').append(x.cell(i, what));
            }
        }
        for (int input = 0; input < 2; input++) {
            all.append("; ").append(x.viewOf(true, input)).append("; ").append(x.viewOf(false, input));
        }
        return all.toString();
    }

    /** The inputs and the functions, seen by running. */
    private static String tried(Session x) {
        StringBuilder all = new StringBuilder();
        for (String text : new String[] {"(Cab)", "(Ga)", "(Ha)", "(Ia)", "(G1)", "(H1)", "(I.)"}) {
            all.append(' ').append(x.checked(text)).append(' ').append(x.ran(1000)).append(seen(x, true));
        }
        return all.toString();
    }

    /** All that can be asked at all; the object is another one then. */
    private static String everything(Session x, boolean withFault) {
        StringBuilder all = new StringBuilder(seen(x, withFault));
        all.append("| at hand ").append(x.run(1000)).append(' ').append(seen(x, withFault));
        all.append("| text ").append(x.define()).append(' ').append(x.fault());
        all.append(' ').append(x.check()).append(' ').append(x.fault()).append(' ').append(x.ran(1000));
        int room = 0;
        while (room < 100 && x.type('1')) {
            room++;
        }
        all.append("| room ").append(room).append("| tried ").append(tried(x));
        return all.append("| next cell ").append(x.number(77)).append(x.pair(0, 13)).toString();
    }

    private static void stands(String what, Past past, boolean withFault, Refused call, String due) {
        Session one = new Session();
        Session other = new Session();
        past.make(one);
        past.make(other);
        DUE.same(what, call.make(other), due);
        DUE.same("after " + what, everything(other, withFault), everything(one, withFault));
    }

    private static void stands(String what, Past past, Refused call, String due) {
        stands(what, past, true, call, due);
    }

    private static void refusedInANewObject() {
        Past past = StandingTest::empty;
        stands("view", past, x -> x.view(true, 0, 0), Session.ELEMENT);
        stands("view of no input", past, x -> x.view(true, 2, 7), Session.ELEMENT);
        stands("run", past, x -> x.run(5), Session.ELEMENT);
        stands("run of too many steps", past, x -> x.run(1001), Session.ELEMENT);
        stands("pair", past, x -> x.pair(13, 0), Session.ARGUMENT);
        stands("no such input", past, x -> x.input(2, 0), Session.INDEX);
        stands("no such cell for it", past, x -> x.input(0, 13), Session.ARGUMENT);
        stands("no such cell", past, x -> x.cell(13, 0), Session.INDEX);
        stands("no such what", past, x -> x.cell(12, 4), Session.ARGUMENT);
        stands("define", past, false, x -> x.define(), Session.ARGUMENT);
        stands("check", past, false, x -> x.check(), Session.ARGUMENT);
    }

    private static void refusedInAFullObject() {
        Past past = StandingTest::full;
        stands("type", past, x -> String.valueOf(x.type(')')), "false");
        stands("view of no input", past, x -> x.view(true, 2, 0), Session.INDEX);
        stands("view of no place", past, x -> x.view(false, 1, 7), Session.INDEX);
        stands("number", past, x -> x.number(5), Session.STATE);
        stands("pair", past, x -> x.pair(0, 52), Session.STATE);
        stands("pair of a run's cell", past, x -> x.pair(53, 0), Session.ARGUMENT);
        stands("pair with a run's cell", past, x -> x.pair(0, 53), Session.ARGUMENT);
        stands("no such input", past, x -> x.input(-1, 0), Session.INDEX);
        stands("a run's cell for it", past, x -> x.input(0, 53), Session.ARGUMENT);
        stands("no cell for the other", past, x -> x.input(1, -1), Session.ARGUMENT);
        stands("run of too few steps", past, x -> x.run(-1), Session.ARGUMENT);
        stands("run of too many steps", past, x -> x.run(1001), Session.ARGUMENT);
        stands("no such cell", past, x -> x.cell(64, 0), Session.INDEX);
        stands("no such what", past, x -> x.cell(53, -1), Session.ARGUMENT);
        stands("define", past, false, x -> x.define(), Session.ARGUMENT);
    }

    private static void refusedWhereNothingIsAccepted() {
        Past past = StandingTest::failing;
        stands("view", past, x -> x.view(false, 0, 0), Session.ELEMENT);
        stands("view of no place", past, x -> x.view(false, 0, 7), Session.ELEMENT);
        stands("pair", past, x -> x.pair(-1, 0), Session.ARGUMENT);
        stands("a run's cell for an input", past, x -> x.input(1, 15), Session.ARGUMENT);
        stands("run of too few steps", past, x -> x.run(Integer.MIN_VALUE), Session.ARGUMENT);
        stands("run of too many steps", past, x -> x.run(Integer.MAX_VALUE), Session.ARGUMENT);
        stands("no such cell", past, x -> x.cell(-1, 0), Session.INDEX);
        stands("define", past, false, x -> x.define(), Session.ARGUMENT);
        stands("check", past, false, x -> x.check(), Session.ARGUMENT);
    }

    private static void refusedBehindARunThatHasNotEnded() {
        Past past = StandingTest::halfway;
        stands("pair of a run's cell", past, x -> x.pair(14, 14), Session.ARGUMENT);
        stands("a run's cell for an input", past, x -> x.input(0, 14), Session.ARGUMENT);
        stands("run of too many steps", past, x -> x.run(1001), Session.ARGUMENT);
        stands("check", past, false, x -> x.check(), Session.ARGUMENT);
    }

    /** The text is the same on both sides, and only one of them reads it. */
    private static void definition(String text, String due, int fault) {
        for (Past past : new Past[] {StandingTest::empty, StandingTest::full, StandingTest::failing, StandingTest::halfway}) {
            stands("define " + text, x -> {
                past.make(x);
                x.text(text);
            }, false, x -> x.define() + x.fault(), due + fault);
        }
    }

    /** "If it throws, there is no such function"; the one at hand and its views stay. */
    private static void definitionsThatThrow() {
        definition("", Session.ARGUMENT, 0);
        definition("Jc*c", Session.ARGUMENT, 0);
        definition("(Na)", Session.ARGUMENT, 0);
        for (Past past : new Past[] {StandingTest::full, StandingTest::failing}) {
            Session x = new Session();
            past.make(x);
            x.forget();
            DUE.same("refused", x.defined("Gc*(C1(Ac))"), Session.OPERATION + "@6");
            DUE.same("there is no such function", x.checked("(G1)"), Session.ARGUMENT + "@1");
            DUE.same("the same with its end missing", x.defined("Gc*(C1c"), Session.ARGUMENT + "@7");
            DUE.same("there is none still", x.checked("(G1)"), Session.ARGUMENT + "@1");
            DUE.same("it may be defined", x.defined("Gc*(C1c)") + x.checked("(G1)"), "1616");
        }
        stands("a second G", x -> {
            full(x);
            x.text("Gc*1");
        }, false, x -> x.define() + x.fault(), Session.ARGUMENT + 0);
        stands("H that is refused", x -> {
            full(x);
            x.text("Hc*(G(Ac))");
        }, false, x -> x.define() + x.fault(), Session.OPERATION + 5);
        stands("H that is refused in I's call", x -> {
            full(x);
            x.text("Hcn(C1(Ic))");
        }, false, x -> x.define() + x.fault(), Session.OPERATION + 6);
    }

    /** "That at hand stays", and so do its views. */
    private static void checksThatThrow() {
        for (String text : new String[] {"", "(N", "c", "(J1)", "(Na))", "(!(!(!(!(!(!(!1)))))))", "(N 1)", "Hc*c"}) {
            for (Past past : new Past[] {StandingTest::empty, StandingTest::full, StandingTest::failing, StandingTest::halfway}) {
                stands("check " + text, x -> {
                    past.make(x);
                    x.text(text);
                }, false, x -> x.check(), Session.ARGUMENT);
            }
        }
    }

    /** "It is at hand all the same": it runs, it has no views, and all else is as it was. */
    private static void aRefusedExpressionIsAtHand() {
        Session x = new Session();
        full(x);
        String cells = x.count() + " " + x.result() + " " + x.steps();
        DUE.same("refused", x.checked("(C(G1)(Aa))"), Session.OPERATION + "@6");
        DUE.same("cells, result and steps stay", x.count() + " " + x.result() + " " + x.steps(), cells);
        DUE.same("no views", x.view(true, 0, 0) + x.view(false, 1, 6), Session.ELEMENT.repeat(2));
        DUE.same("it runs", x.run(100) + " " + x.steps() + " " + x.count() + " " + x.cell(54, 2) + " " + x.cell(54, 3), "1 9 55 53 51");
        x.input(0, 2);
        DUE.same("it fails", x.run(100) + " " + x.steps(), "2 9");
        DUE.same("no expression", x.checked("(C(G1)(Aa)"), Session.ARGUMENT + "@10");
        DUE.same("the refused one stays", x.run(100) + " " + x.steps() + x.view(true, 0, 0), "2 9" + Session.ELEMENT);
    }

    private static void askingChangesNothing() {
        for (Past past : new Past[] {StandingTest::empty, StandingTest::full, StandingTest::failing, StandingTest::halfway}) {
            Session x = new Session();
            past.make(x);
            String before = seen(x, true);
            DUE.same("asked twice", seen(x, true), before);
            Session y = new Session();
            past.make(y);
            DUE.same("never asked", everything(x, true), everything(y, true));
        }
    }

    private static void whatWipeLeaves() {
        for (Past past : new Past[] {StandingTest::empty, StandingTest::full, StandingTest::failing, StandingTest::halfway}) {
            Session x = new Session();
            past.make(x);
            String before = seen(x, true);
            x.wipe();
            DUE.same("all but the text", seen(x, true), before);
            Session y = new Session();
            past.make(y);
            DUE.same("what runs", x.ran(1000) + tried(x), y.ran(1000) + tried(y));
        }
    }

    /** "All functions are gone; there is no expression at hand": the text, the cells and the rest stay. */
    private static void whatForgetLeaves() {
        Session x = new Session();
        full(x);
        String before = x.fault() + " " + x.steps() + " " + x.result() + " " + x.count() + " " + x.cell(53, 2);
        x.forget();
        DUE.same("cells and run", x.fault() + " " + x.steps() + " " + x.result() + " " + x.count() + " " + x.cell(53, 2), before);
        DUE.same("no expression", x.run(5) + x.view(true, 0, 0), Session.ELEMENT.repeat(2));
        DUE.same("the text is full", x.type('1'), false);
        DUE.same("the text is read", x.check() + x.run(1000), "11");
        x.check("(Cab)");
        DUE.same("the inputs", x.run(9) + " " + x.cell(53, 2) + " " + x.cell(53, 3), "1 52 20");
        DUE.same("no functions", x.checked("(G1)") + x.checked("(H1)") + x.checked("(I.)"), (Session.ARGUMENT + "@1").repeat(3));
        Session y = new Session();
        y.forget();
        DUE.same("nothing to forget", everything(y, true), everything(new Session(), true));
        y = new Session();
        failing(y);
        y.forget();
        DUE.same("a refused one", y.run(5) + y.view(true, 0, 0) + y.fault(), Session.ELEMENT.repeat(2) + 7);
        y.forget();
        DUE.same("twice", y.run(5) + y.count(), Session.ELEMENT + 16);
    }

    private static void whatClearLeaves() {
        Session x = new Session();
        full(x);
        String views = x.viewOf(true, 0) + x.viewOf(false, 0) + x.fault() + x.steps();
        x.clear();
        DUE.same("views, fault and steps", x.viewOf(true, 0) + x.viewOf(false, 0) + x.fault() + x.steps(), views);
        DUE.same("the expression", x.ran(100), "1 8 14 15");
        DUE.same("the text", x.type('1') + x.check(), "false1");
        DUE.same("the functions", x.check("(Ga)") + x.check("(I.)"), "166");
        Session y = new Session();
        y.clear();
        DUE.same("nothing to clear", everything(y, true), everything(new Session(), true));
    }

    /** "At most 512 calls": the dearest ones, up to the last. */
    private static void theLastOfItsCalls() {
        TypedLisp checked = typed(SIXTY);
        int types = 0;
        for (int call = 61; call <= 512; call++) {
            types += checked.check();
        }
        DUE.same("checks up to the 512th", types, 452);
        TypedLisp cells = typed("(C(C(C12)(C34))(C(C56)(C78)))");
        cells.check();
        int values = 0;
        for (int call = 31; call <= 511; call++) {
            values += cells.run(1000);
        }
        DUE.same("runs up to the 511th", values, 481);
        DUE.same("the 512th", cells.count(), 20);
    }

    private static TypedLisp typed(String text) {
        TypedLisp lisp = new TypedLisp();
        for (char c : text.toCharArray()) {
            lisp.type(c);
        }
        return lisp;
    }
}
