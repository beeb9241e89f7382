/** Makes texts up, the same ones each time. */
final class Writer {
    private long state;

    Writer(int seed) {
        state = seed * 7919L + 17L;
    }

    int below(int bound) {
        state = state * 6364136223846793005L + 1442695040888963407L;
        return (int) ((state >>> 33) % bound);
    }

    String expression() {
        return fitting("ab", 60);
    }

    String definition() {
        char parameter = pick("cdefgh");
        return "" + pick("GHI") + parameter + pick("**nblp") + fitting(String.valueOf(parameter), 57);
    }

    /** A text of either sort with a character changed, left out or put in. */
    String spoilt() {
        String text = below(2) == 0 ? expression() : definition();
        int at = below(text.length());
        String other = below(3) == 0 ? "" : String.valueOf(pick("()ACNG:?&|cdeab1~ *"));
        return text.substring(0, at) + other + text.substring(at + below(2));
    }

    char character() {
        return pick("(((((::::::))NBEP!ADC+-<?&|GHIabcdefghcdefgh1#~.*nblp");
    }

    char pick(String letters) {
        return letters.charAt(below(letters.length()));
    }

    private String fitting(String scope, int length) {
        for (int i = 0; i < 200; i++) {
            String text = part(scope, below(7));
            if (text.length() <= length && text.length() > below(30)) {
                return text;
            }
        }
        return "1";
    }

    String part(String scope, int depth) {
        if (depth == 0 || below(8) == 0) {
            return String.valueOf(below(3) == 0 ? pick("0123456789#~.") : pick(scope));
        }
        switch (below(16)) {
            case 0:
            case 1:
                return "(" + pick("NBEPNP!") + part(scope, depth - 1) + ")";
            case 2:
                return "(" + pick("NBEP") + pick(scope) + ")";
            case 3:
                return "(" + pick("AD") + part(scope, depth - 1) + ")";
            case 4:
                return "(" + pick("C+-<") + part(scope, depth - 1) + part(scope, depth - 1) + ")";
            case 5:
                return "(" + pick("GHI") + part(scope, depth - 1) + ")";
            case 6:
            case 7:
                return "(" + pick("&|") + part(scope, depth - 1) + part(scope, depth - 1) + ")";
            case 8:
            case 9:
                return guarded(pick(scope), scope, depth);
            case 10:
            case 11:
            case 12:
                return binding(scope, depth);
            default:
                return "(?" + part(scope, depth - 1) + part(scope, depth - 1) + part(scope, depth - 1) + ")";
        }
    }

    /** A half or a sum behind the test that allows it, so that more is accepted. */
    private String guarded(char name, String scope, int depth) {
        if (depth < 3) {
            return "(P" + name + ")";
        }
        return below(2) == 0 ? "(&(P" + name + ")(" + pick("NPEB") + "(" + pick("AD") + name + ")))"
            : "(?(N" + name + ")(" + pick("+-<") + name + pick("12") + ")" + part(scope, depth - 1) + ")";
    }

    private String binding(String scope, int depth) {
        char name = pick("cdefgh");
        // Now and then a name that is in scope: the text is wrong then.
        if (scope.indexOf(name) >= 0 && below(20) != 0) {
            return part(scope, depth - 1);
        }
        String behind = scope + name + name;
        return "(:" + name + part(scope, depth - 1) + part(behind, depth - 1) + ")";
    }
}
