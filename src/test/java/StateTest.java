/** Promises 1, 5, 7, 8: a new object, the expression at hand, and what is forgotten. */
public final class StateTest {
    private static final Due DUE = new Due();

    public static void main(String[] args) {
        aNewObject();
        objectsAreApart();
        theExpressionAtHand();
        viewsOfWhatWasAccepted();
        viewArguments();
        forgetting();
        DUE.end();
    }

    private static void aNewObject() {
        Session x = new Session();
        DUE.same("fault", x.fault(), -1);
        DUE.same("steps", x.steps(), 0);
        DUE.same("result", x.result(), -1);
        DUE.same("count", x.count(), 13);
        DUE.same("view", x.view(true, 0, 0), Session.ELEMENT);
        DUE.same("run", x.run(1), Session.ELEMENT);
        DUE.same("text", x.check() + x.fault(), Session.ARGUMENT + "0");
        DUE.same("functions", x.checked("(G1)") + x.checked("(H1)") + x.checked("(I1)"), (Session.ARGUMENT + "@1").repeat(3));
        x.check("(Cab)");
        x.run(3);
        DUE.same("inputs", x.cell(13, 2) + x.cell(13, 3), "22");
        Session y = new Session();
        DUE.same("no text for define", y.define() + y.fault(), Session.ARGUMENT + "0");
    }

    private static void objectsAreApart() {
        Session x = new Session();
        Session y = new Session();
        x.define("Gc*1");
        y.define("Gc*#");
        x.number(5);
        DUE.same("functions", x.check("(Ga)") + y.check("(Ga)"), "12");
        DUE.same("cells", x.count() + " " + y.count(), "14 13");
    }

    private static void theExpressionAtHand() {
        Session x = new Session();
        x.check("1");
        DUE.same("1", x.ran(9), "1 1 4 13");
        x.text("2");
        DUE.same("the text alone changes nothing", x.ran(9), "1 1 4 13");
        DUE.same("no expression", x.check("(2"), Session.ARGUMENT);
        DUE.same("that at hand stays", x.ran(9), "1 1 4 13");
        x.check("(A2)");
        DUE.same("not accepted, but at hand", x.ran(9), "2 2 -1 13");
        x.check("(A3");
        DUE.same("stays, too", x.ran(9), "2 2 -1 13");
        DUE.same("a definition is not at hand", x.define("Gc*3") + x.ran(9), "1" + "2 2 -1 13");
        x.check("(G1)");
        x.define("Hc*(A1)");
        x.define("G");
        DUE.same("a definition that throws changes nothing", x.ran(9), "1 3 6 13");
    }

    private static void viewsOfWhatWasAccepted() {
        Session x = new Session();
        x.check("(Na)");
        DUE.same("IF", x.view(true, 0, 0), "1");
        x.check("(Na");
        DUE.same("no expression: they stay", x.view(true, 0, 0) + " " + x.view(false, 0, 0), "1 30");
        x.define("Gc*(Pc)");
        DUE.same("a definition: they stay", x.view(true, 0, 0) + " " + x.view(false, 0, 0), "1 30");
        x.define("Hc*(Ac)");
        DUE.same("a refused one: they stay", x.view(true, 0, 0) + " " + x.view(false, 0, 0), "1 30");
        x.check("(Aa)");
        DUE.same("not accepted", x.view(true, 0, 0) + x.view(false, 1, 6), Session.ELEMENT + Session.ELEMENT);
        x.check("(Aa");
        DUE.same("still none", x.view(true, 0, 0), Session.ELEMENT);
        x.check("(Nb)");
        DUE.same("another", x.view(true, 0, 0) + " " + x.view(true, 1, 0), "31 1");
    }

    private static void viewArguments() {
        Session x = new Session();
        DUE.same("none, and no such input", x.view(true, 2, 9), Session.ELEMENT);
        x.check("1");
        DUE.same("input 2", x.view(true, 2, 0), Session.INDEX);
        DUE.same("input -1", x.view(true, -1, 0), Session.INDEX);
        DUE.same("letters 7", x.view(true, 1, 7), Session.INDEX);
        DUE.same("letters -1", x.view(true, 1, -1), Session.INDEX);
        DUE.same("impossible, letters 7", x.view(false, 1, 7), Session.INDEX);
        DUE.same("largest", x.view(false, Integer.MAX_VALUE, Integer.MIN_VALUE), Session.INDEX);
        DUE.same("impossible", x.view(false, 1, 6), "-1");
        DUE.same("not impossible", x.view(true, 1, 6), "31");
    }

    private static void forgetting() {
        Session x = new Session();
        x.define("Gc*c");
        x.check("(G5)");
        x.run(9);
        x.number(9);
        x.forget();
        DUE.same("no expression", x.run(9) + x.view(true, 0, 0), Session.ELEMENT + Session.ELEMENT);
        DUE.same("no function", x.check() + x.fault(), Session.ARGUMENT + "1");
        DUE.same("still none", x.run(9), Session.ELEMENT);
        DUE.same("cells stay", x.count() + x.cell(13, 1), "149");
        DUE.same("steps stay", x.steps(), 3);
        DUE.same("the name is free", x.define("Gc*(Nc)"), "6");
        DUE.same("a new G", x.check("(G5)"), "6");
        DUE.same("it runs", x.ran(9), "1 4 0 14");
    }
}
