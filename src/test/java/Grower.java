import java.util.ArrayList;
import java.util.List;

/** Makes long texts that the checker accepts: it goes on from a short one, and puts an operation where a leaf was. */
final class Grower {
    private static final int LONGEST = 60;
    private static final int TRIES = 300;
    private static final String LEAVES = "0123456789#~.abcdefgh";
    /** Of two variables x and y: an operation behind the test that allows it, and what is learnt from names and halves. */
    private static final String[] PATTERNS = {"(?(Nx)(+x1)y)", "(?(Px)(Ax)y)", "(&(Px)(Dx))", "(&(Px)(N(Ax)))", "(&(Px)(P(Dx)))",
        "(|(Nx)(Py))", "(:z(Nx)(&zy))", "(:z(Px)(?zy1))", "(:z(Cxy)(Az))", "(&(Nx)(&(Ny)(<xy)))", "(Cxy)", "(|xy)", "(!x)", "(:zx(Pz))"};

    private final Writer writer;
    private final List<String> definitions = new ArrayList<>();
    private Model model = new Model();

    Grower(Writer writer) {
        this.writer = writer;
    }

    /** Of the function of that name; those that are made later may use it. */
    String definition(char name) {
        char parameter = writer.pick("cdefgh");
        String made = grown("" + name + parameter + writer.pick("**nblp") + parameter, 3, String.valueOf(parameter), true);
        definitions.add(made);
        defineAll();
        return made;
    }

    String expression() {
        return grown(String.valueOf(writer.pick("ab")), 0, "ab", false);
    }

    void forget() {
        definitions.clear();
        defineAll();
    }

    private void defineAll() {
        model = new Model();
        for (String definition : definitions) {
            isAccepted(definition, true);
        }
    }

    private String grown(String start, int from, String scope, boolean defining) {
        String text = start;
        for (int i = 0; i < TRIES && text.length() < LONGEST - 3; i++) {
            int at = leaf(text, from);
            String longer = text.substring(0, at) + twig(scope + bound(text)) + text.substring(at + 1);
            if (longer.length() <= LONGEST && isAccepted(longer, defining)) {
                text = longer;
                if (defining) {
                    defineAll();
                }
            }
        }
        return text;
    }

    private String twig(String scope) {
        if (!definitions.isEmpty() && writer.below(4) == 0) {
            return "(" + definitions.get(writer.below(definitions.size())).charAt(0) + writer.pick(scope) + ")";
        }
        if (writer.below(2) == 0) {
            String pattern = PATTERNS[writer.below(PATTERNS.length)];
            return pattern.replace('x', writer.pick(scope)).replace('y', writer.pick(scope)).replace('z', writer.pick("cdefgh"));
        }
        return writer.part(scope, 1 + writer.below(2));
    }

    /** Each text that was accepted has one behind the place from which it was grown. */
    private int leaf(String text, int from) {
        int at = from;
        do {
            at = from + writer.below(text.length() - from);
        } while (LEAVES.indexOf(text.charAt(at)) < 0 || at > 0 && text.charAt(at - 1) == ':');
        return at;
    }

    private static String bound(String text) {
        StringBuilder names = new StringBuilder();
        for (int i = 1; i < text.length(); i++) {
            if (text.charAt(i - 1) == ':') {
                names.append(text.charAt(i));
            }
        }
        return names.toString();
    }

    private boolean isAccepted(String text, boolean defining) {
        model.wipe();
        for (int i = 0; i < text.length(); i++) {
            model.type(text.charAt(i));
        }
        try {
            return defining ? model.define() >= 0 : model.check() >= 0;
        } catch (IllegalArgumentException | UnsupportedOperationException e) {
            return false;
        }
    }
}
