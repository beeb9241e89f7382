/** Promises 4, 5, 6, 7: types, what is not accepted and where, and what the views say. */
public final class CheckingTest {
    private static final Due DUE = new Due();
    private static final String ALL = "31 31 31 31 31 31 31";
    private static final String IMPOSSIBLE = "-1 -1 -1 -1 -1 -1 -1";

    public static void main(String[] args) {
        constants();
        variables();
        tests();
        negation();
        halves();
        arithmetic();
        choices();
        bothAndEither();
        otherNames();
        ownPlaces();
        memories();
        functions();
        functionsOfHalves();
        unchecked();
        firstFault();
        DUE.end();
    }

    /** The type, and both views of input a. */
    private static void check(Session x, String text, String type, String yes, String no) {
        DUE.same(text, x.checked(text), type);
        DUE.same(text + " IF", x.viewOf(true, 0), yes);
        DUE.same(text + " IFNOT", x.viewOf(false, 0), no);
    }

    private static void check(String text, String type, String yes, String no) {
        check(new Session(), text, type, yes, no);
    }

    private static void refused(Session x, String text, int place) {
        DUE.same(text, x.checked(text), Session.OPERATION + "@" + place);
        DUE.same(text + " has no views", x.view(true, 0, 0), Session.ELEMENT);
    }

    private static void refused(String text, int place) {
        refused(new Session(), text, place);
    }

    private static String only(int kinds) {
        return kinds + " 31 31 31 31 31 31";
    }

    private static void constants() {
        check("0", "1", ALL, IMPOSSIBLE);
        check("9", "1", ALL, IMPOSSIBLE);
        check("#", "2", ALL, IMPOSSIBLE);
        check("~", "4", IMPOSSIBLE, ALL);
        check(".", "8", ALL, IMPOSSIBLE);
    }

    private static void variables() {
        check("a", "31", only(27), only(4));
        check("b", "31", ALL, ALL);
        Session x = new Session();
        x.check("b");
        DUE.same("b of b", x.viewOf(true, 1) + "," + x.viewOf(false, 1), only(27) + "," + only(4));
        check("(?(Ba)a1)", "7", only(27), only(4));
    }

    private static void tests() {
        check("(Na)", "6", only(1), only(30));
        check("(Ba)", "6", only(6), only(25));
        check("(Ea)", "6", only(8), only(23));
        check("(Pa)", "6", only(16), only(15));
        check("(N1)", "2", ALL, IMPOSSIBLE);
        check("(B1)", "4", IMPOSSIBLE, ALL);
        check("(B~)", "2", ALL, IMPOSSIBLE);
        check("(P(C1a))", "2", ALL, IMPOSSIBLE);
        // What is tested has no place, and its own views count for nothing.
        check("(B(Na))", "2", ALL, IMPOSSIBLE);
        check("(N(|(Na)1))", "6", ALL, ALL);
    }

    private static void negation() {
        check("(!a)", "6", only(4), only(27));
        check("(!(Na))", "6", only(30), only(1));
        check("(!1)", "4", IMPOSSIBLE, ALL);
        check("(!~)", "2", ALL, IMPOSSIBLE);
        check("(!(!(Pa)))", "6", only(16), only(15));
    }

    private static void halves() {
        refused("(Aa)", 0);
        refused("(D1)", 0);
        refused("(A.)", 0);
        check("(?(Pa)(Aa)1)", "31", "31 31 31 31 31 31 31", "16 4 31 31 31 31 31");
        check("(&(Pa)(Aa))", "31", "16 27 31 31 31 31 31", "31 31 31 31 31 31 31");
        check("(&(Pa)(Da))", "31", "16 31 27 31 31 31 31", ALL);
        check("(&(Pa)(N(Da)))", "6", "16 31 1 31 31 31 31", ALL);
        // AD is the second half of the first one.
        check("(&(Pa)(&(P(Aa))(N(D(Aa)))))", "6", "16 16 31 31 1 31 31", ALL);
        check("(&(Pa)(&(P(Da))(N(A(Da)))))", "6", "16 31 16 31 31 1 31", ALL);
        check("(&(Pa)(&(P(Da))(D(Da))))", "31", "16 31 16 31 31 31 27", ALL);
        // A third letter is too many: no place, and nothing is learnt.
        check("(&(&(Pa)(&(P(Aa))(P(A(Aa)))))(N(A(A(Aa)))))", "6", "16 16 31 16 31 31 31", ALL);
        refused("(&(Pa)(+(Aa)1))", 6);
        check("(?(&(Pa)(N(Aa)))(+(Aa)1)2)", "1", ALL, IMPOSSIBLE);
        check("(A(C12))", "31", ALL, ALL);
        refused("(+(A(C12))1)", 0);
    }

    private static void arithmetic() {
        check("(+12)", "1", ALL, IMPOSSIBLE);
        check("(-12)", "1", ALL, IMPOSSIBLE);
        check("(<12)", "6", ALL, ALL);
        check("(Cab)", "16", ALL, IMPOSSIBLE);
        refused("(+a1)", 0);
        refused("(-1a)", 0);
        refused("(<1.)", 0);
        refused("(<#1)", 0);
        // A comparison teaches nothing.
        check("(&(Na)(<a1))", "6", only(1), ALL);
    }

    private static void choices() {
        check("(?(Na)(+a1)0)", "1", ALL, IMPOSSIBLE);
        refused("(?(Na)0(+a1))", 7);
        check("(?(Na)#~)", "6", only(1), only(30));
        check("(?(Na)~(Pa))", "6", only(16), only(15));
        check("(?(Na)(Pa)#)", "6", only(30), only(1));
        check("(?a1#)", "3", ALL, IMPOSSIBLE);
        check("(?(?(Na)#(Pa))a1)", "17", ALL, IMPOSSIBLE);
        check("(?(Pb)(Na)(Ea))", "6", only(9), only(31));
    }

    private static void bothAndEither() {
        check("(&(Na)(Nb))", "6", only(1), ALL);
        check("(&(Na)a)", "5", only(1), only(30));
        check("(&~(A1))", "4", IMPOSSIBLE, ALL);
        check("(&12)", "1", ALL, IMPOSSIBLE);
        check("(|(Na)(Pa))", "6", only(17), only(14));
        check("(|(Na)(Nb))", "6", ALL, only(30));
        check("(|a1)", "27", ALL, IMPOSSIBLE);
        check("(|1(A1))", "1", ALL, IMPOSSIBLE);
        check("(|~a)", "31", only(27), only(4));
        // That one of them is a number is forgotten: each may be anything.
        refused("(?(|(Na)(Nb))(?(Na)(+a1)(+b1))2)", 24);
    }

    private static void otherNames() {
        check("(:ca(Nc))", "6", only(1), only(30));
        check("(:cac)", "31", only(27), only(4));
        check("(N(:cac))", "6", only(1), only(30));
        check("(&(Pa)(:c(Aa)(Nc)))", "6", "16 1 31 31 31 31 31", ALL);
        check("(&(Pa)(:c(Aa)(&(Pc)(N(Dc)))))", "6", "16 16 31 31 1 31 31", ALL);
        check("(:ca(:dc(Nd)))", "6", only(1), only(30));
        check("(N(:c1a))", "6", only(1), only(30));
        check("(:d(:c1a)(Nd))", "6", only(1), only(30));
    }

    private static void ownPlaces() {
        check("(:c1(+c1))", "1", ALL, IMPOSSIBLE);
        check("(:c(C12)(Pc))", "2", ALL, IMPOSSIBLE);
        refused("(:c(C12)(+(Ac)1))", 8);
        check("(:c(C12)(?(N(Ac))(+(Ac)1)0))", "1", ALL, IMPOSSIBLE);
        check("(:c(|a1)(?(Nc)(+c1)0))", "1", ALL, IMPOSSIBLE);
        // Its own place ends with it: what was learnt of it is no place's any more.
        check("(N(:c(|a1)c))", "6", ALL, ALL);
        check("(N(:c(C12)(Ac)))", "6", ALL, ALL);
        check("(:d(:c(|a1)c)(Nd))", "6", ALL, ALL);
    }

    private static void memories() {
        check("(:c(Na)c)", "6", only(1), only(30));
        check("(:c(Na)(?c(+a1)0))", "1", ALL, IMPOSSIBLE);
        check("(:c(Na)(!c))", "6", only(30), only(1));
        check("(:c(Na)(?(Pa)c#))", "6", only(15), only(16));
        check("(:c(&(Na)(Nb))(?c(+ab)0))", "1", ALL, IMPOSSIBLE);
        // A test of the variable does not bring its memory back, nor does another name of it.
        check("(:c(Na)(Bc))", "2", ALL, IMPOSSIBLE);
        check("(:c(&(Na)a)(Nc))", "6", ALL, ALL);
        check("(:c(Na)(:dcd))", "6", ALL, ALL);
        check("(:c(Na)(:d(!c)d))", "6", only(30), only(1));
        // In the branch the memory of c says that a number is a pair: it is not checked.
        check("(:c(Na)(?(Pa)(?c(A1)2)3))", "1", ALL, IMPOSSIBLE);
        // The names are free again, but the memory of c tells of the first d.
        check("(:c(:d(Na)d)(:d1(?c(+ad)d)))", "1", ALL, IMPOSSIBLE);
        check("(:c(:d(Na)d)(:d1(?cd~)))", "5", only(1), only(30));
    }

    private static void functions() {
        Session x = new Session();
        DUE.same("G", x.defined("Gc*(Nc)"), "6");
        check(x, "(Ga)", "6", only(1), only(30));
        check(x, "(G1)", "6", ALL, ALL);
        check(x, "(?(Ga)(+a1)2)", "1", ALL, IMPOSSIBLE);
        check(x, "(G(|a1))", "6", ALL, ALL);
        DUE.same("H", x.defined("Hcn(+c1)"), "1");
        check(x, "(?(Ga)(Ha)2)", "1", ALL, IMPOSSIBLE);
        refused(x, "(Ha)", 0);
        refused(x, "(C1(H.))", 3);
        DUE.same("I", x.defined("Ie*(?(Ge)(He)(Ee))"), "7");
        check(x, "(Ia)", "7", only(9), only(22));
        x.forget();
        DUE.same("a definition that is refused", x.defined("Gc*(C1(Ac))"), Session.OPERATION + "@6");
        DUE.same("one of booleans", x.defined("Gcb(!c)"), "6");
        check(x, "(&(Ba)(Ga))", "6", only(4), only(27));
        refused(x, "(G1)", 0);
        DUE.same("one of lists", x.defined("Hdl(Ed)"), "6");
        check(x, "(H.)", "6", ALL, ALL);
        refused(x, "(H#)", 0);
        check(x, "(?(Ea)#(&(Pa)(Ha)))", "6", only(8), only(23));
        DUE.same("always FALSE", x.defined("Id*~"), "4");
        check(x, "(Ia)", "4", IMPOSSIBLE, ALL);
    }

    private static void functionsOfHalves() {
        Session x = new Session();
        x.define("Gc*(&(Pc)(&(P(Ac))(&(N(A(Ac)))(E(Dc)))))");
        check(x, "(Ga)", "6", "16 16 8 1 31 31 31", ALL);
        check(x, "(&(Pa)(G(Da)))", "6", "16 31 16 31 31 16 8", ALL);
        check(x, "(&(Pa)(&(P(Aa))(G(D(Aa)))))", "6", "16 16 31 31 16 31 31", ALL);
        check(x, "(&(Ga)(+1(A(Aa))))", "5", "16 16 8 1 31 31 31", ALL);
        check(x, "(:c(Ga)(&c(A(Aa))))", "5", "16 16 8 1 31 31 31", ALL);
        // What is said of the function's own bindings is none of the caller's business.
        x.define("Hc*(:d(Nc)d)");
        check(x, "(Ha)", "6", only(1), only(30));
        check(x, "(?(Na)(?(Ha)1(A1))2)", "1", ALL, IMPOSSIBLE);
    }

    private static void unchecked() {
        check("(?#1(A1))", "1", ALL, IMPOSSIBLE);
        check("(?~(A1)#)", "2", ALL, IMPOSSIBLE);
        check("(?(Na)(?(Pa)(A1)2)3)", "1", ALL, IMPOSSIBLE);
        check("(?(N1)a(+#~))", "31", only(27), only(4));
        DUE.same("what is not checked must be an expression", new Session().checked("(?#1(A))"), Session.ARGUMENT + "@6");
        typeZero();
    }

    /** In X, c is a number, so that a must be one, but a is a pair: neither c nor its being FALSE is possible. */
    private static void typeZero() {
        Session x = new Session();
        x.define("Gd*(Nd)");
        x.define("Hdn(C1d)");
        String[] texts = {"c", "(?c#.)", "(A(?c#.))", "(N(?c#.))", "(!c)", "(&c#)", "(|c#)", "(+(?c#.)1)",
            "(<(?c#.)1)", "(C(?c#.)1)", "(:d(?c#.)(A1))", "(:d(?c#.)#)", "(G(?c#.))", "(H(?c#.))", "(?(?c#.).#)"};
        int[] types = {1, 0, 0, 0, 0, 0, 1, 1, 6, 16, 0, 0, 6, 16, 0};
        for (int i = 0; i < texts.length; i++) {
            String text = "(:c(?(Na)1~)(?(Nc)(?(Pa)" + texts[i] + "3)4))";
            DUE.same(text, x.checked(text), types[i] | 1);
        }
        refused(x, "(:c(?(Na)1~)(?(Nc)(?(Pa)(+c#)3)4))", 24);
    }

    private static void firstFault() {
        refused("(+#(A1))", 3);
        refused("(+(A1)(D2))", 2);
        refused("(+(+#1)(-~2))", 2);
        refused("(C(D2)(A1))", 2);
        refused("(?(A1)(D1)(D2))", 2);
        refused("(?a(D1)(D2))", 3);
        refused("(:c(A1)(D2))", 3);
        refused("(<(+11)(+1#))", 7);
        refused("(<(+11)(C11))", 0);
        Session x = new Session();
        x.check("(A1)");
        DUE.same("fault stays", x.fault(), 0);
        x.wipe();
        x.forget();
        x.clear();
        DUE.same("fault stays still", x.fault(), 0);
        x.check("(C1(A1))");
        DUE.same("fault of the latest", x.fault(), 3);
        x.define("Gc*c");
        DUE.same("no fault", x.fault(), -1);
    }
}
