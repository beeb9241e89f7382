import java.util.ArrayList;
import java.util.HashMap;
import java.util.HashSet;
import java.util.List;
import java.util.Map;
import java.util.NoSuchElementException;
import java.util.Set;
import java.util.TreeMap;

/**
 * The document written a second time, with other means: views are maps from places (texts such
 * as "aAD") to kinds, places are made anew for each binding, nothing is ever changed in place.
 */
final class Model {
    /** A text that is no expression, or an operand of a wrong type. */
    static final class Stop extends RuntimeException {
        private static final long serialVersionUID = 1L;
        final int place;

        Stop(int place) {
            super(null, null, false, false);
            this.place = place;
        }
    }

    /** The end of a run before its value. */
    static final class Halt extends RuntimeException {
        private static final long serialVersionUID = 1L;
        final int how;

        Halt(int how) {
            super(null, null, false, false);
            this.how = how;
        }
    }

    static final class Tree {
        char op;
        int at;
        char name;
        List<Tree> parts = new ArrayList<>();
    }

    /** Says 31 of what is not in the map; null is the impossible view. */
    record Known(int type, String place, Map<String, Integer> yes, Map<String, Integer> no) { }

    record Meaning(String place, Known memory) { }

    static final class Fun {
        char parameter;
        int parameterType;
        Tree body;
        Known known;
    }

    private String text = "";
    private final Map<Character, Fun> functions = new HashMap<>();
    private Tree hand;
    private Known handKnown;
    private int fault = -1;
    private final List<int[]> cells = new ArrayList<>();
    private int kept;
    private int[] in = {2, 2};
    private int begun;
    private int limit;
    private int value = -1;
    private int fresh;
    private int at;

    Model() {
        cells.add(new int[] {2, 0, -1, -1});
        cells.add(new int[] {4, 0, -1, -1});
        cells.add(new int[] {8, 0, -1, -1});
        for (int i = 0; i < 10; i++) {
            cells.add(new int[] {1, i, -1, -1});
        }
    }

    boolean type(char c) {
        if (text.length() == 60) {
            return false;
        }
        text += c;
        return true;
    }

    void wipe() {
        text = "";
    }

    int define() {
        Fun made = new Fun();
        char name;
        try {
            at = 0;
            name = next("GHI");
            if (functions.containsKey(name)) {
                throw new Stop(0);
            }
            made.parameter = next("cdefgh");
            made.parameterType = new int[] {31, 1, 6, 24, 16}["*nblp".indexOf(next("*nblp"))];
            made.body = parse(Set.of(made.parameter), 0);
            if (at != text.length()) {
                throw new Stop(at);
            }
        } catch (Stop stop) {
            fault = stop.place;
            throw new IllegalArgumentException();
        }
        try {
            fault = -1;
            Map<String, Integer> view = Map.of("0", made.parameterType);
            made.known = learn(made.body, view, Map.of(made.parameter, new Meaning("0", null)));
        } catch (Stop stop) {
            fault = stop.place;
            throw new UnsupportedOperationException();
        }
        functions.put(name, made);
        return made.known.type();
    }

    int check() {
        Tree read;
        try {
            at = 0;
            read = parse(Set.of('a', 'b'), 0);
            if (at != text.length()) {
                throw new Stop(at);
            }
        } catch (Stop stop) {
            fault = stop.place;
            throw new IllegalArgumentException();
        }
        hand = read;
        handKnown = null;
        fault = -1;
        try {
            handKnown = learn(read, Map.of(), Map.of('a', new Meaning("a", null), 'b', new Meaning("b", null)));
        } catch (Stop stop) {
            fault = stop.place;
            throw new UnsupportedOperationException();
        }
        return handKnown.type();
    }

    int fault() {
        return fault;
    }

    int view(boolean yes, int input, int letters) {
        if (handKnown == null) {
            throw new NoSuchElementException();
        }
        if (input != 0 && input != 1 || letters < 0 || letters > 6) {
            throw new IndexOutOfBoundsException();
        }
        Map<String, Integer> asked = yes ? handKnown.yes() : handKnown.no();
        String path = List.of("", "A", "D", "AA", "AD", "DA", "DD").get(letters);
        return asked == null ? -1 : says(asked, "ab".charAt(input) + path);
    }

    void forget() {
        functions.clear();
        hand = null;
        handKnown = null;
    }

    int number(int v) {
        if (kept == 40) {
            throw new IllegalStateException();
        }
        return keep(new int[] {1, v, -1, -1});
    }

    int pair(int first, int second) {
        if (first < 0 || second < 0 || Math.max(first, second) >= 13 + kept) {
            throw new IllegalArgumentException();
        }
        if (kept == 40) {
            throw new IllegalStateException();
        }
        return keep(new int[] {16, 0, first, second});
    }

    private int keep(int[] cell) {
        dropRun();
        value = -1;
        kept++;
        cells.add(cell);
        return cells.size() - 1;
    }

    private void dropRun() {
        cells.subList(13 + kept, cells.size()).clear();
    }

    void input(int which, int cell) {
        if (which != 0 && which != 1) {
            throw new IndexOutOfBoundsException();
        }
        if (cell < 0 || cell >= 13 + kept) {
            throw new IllegalArgumentException();
        }
        in[which] = cell;
    }

    void clear() {
        kept = 0;
        dropRun();
        in = new int[] {2, 2};
        value = -1;
    }

    int run(int steps) {
        if (hand == null) {
            throw new NoSuchElementException();
        }
        if (steps < 0 || steps > 1000) {
            throw new IllegalArgumentException();
        }
        dropRun();
        begun = 0;
        limit = steps;
        value = -1;
        try {
            value = go(hand, Map.of('a', in[0], 'b', in[1]));
            return 1;
        } catch (Halt halt) {
            return halt.how;
        }
    }

    int steps() {
        return begun;
    }

    int result() {
        return value;
    }

    int count() {
        return cells.size();
    }

    int cell(int i, int what) {
        if (i < 0 || i >= cells.size()) {
            throw new IndexOutOfBoundsException();
        }
        if (what < 0 || what > 3) {
            throw new IllegalArgumentException();
        }
        return cells.get(i)[what];
    }

    private char next(String allowed) {
        if (at >= text.length() || allowed.indexOf(text.charAt(at)) < 0) {
            throw new Stop(at);
        }
        return text.charAt(at++);
    }

    private static String joined(Set<Character> names) {
        StringBuilder all = new StringBuilder();
        names.forEach(all::append);
        return all.toString();
    }

    private Tree parse(Set<Character> scope, int depth) {
        Tree tree = new Tree();
        tree.at = at;
        tree.op = next("0123456789#~." + joined(scope) + (depth < 6 ? "(" : ""));
        if (tree.op != '(') {
            return tree;
        }
        String free = "cdefgh";
        for (char c : scope) {
            free = free.replace(String.valueOf(c), "");
        }
        tree.op = next("NBEP!ADC+-<?&|" + joined(functions.keySet()) + (free.isEmpty() ? "" : ":"));
        Set<Character> behind = new HashSet<>(scope);
        if (tree.op == ':') {
            tree.name = next(free);
            behind.add(tree.name);
        }
        int parts = tree.op == '?' ? 3 : "C+-<&|:".indexOf(tree.op) >= 0 ? 2 : 1;
        for (int i = 0; i < parts; i++) {
            tree.parts.add(parse(i == 0 ? scope : behind, depth + 1));
        }
        next(")");
        return tree;
    }

    private static int says(Map<String, Integer> view, String place) {
        return view.getOrDefault(place, 31);
    }

    private static Map<String, Integer> restrict(Map<String, Integer> view, String place, int kinds) {
        if (view == null || (says(view, place) & kinds) == 0) {
            return null;
        }
        Map<String, Integer> less = new TreeMap<>(view);
        less.put(place, says(view, place) & kinds);
        return less;
    }

    private static Map<String, Integer> both(Map<String, Integer> one, Map<String, Integer> two) {
        if (one == null || two == null) {
            return null;
        }
        Map<String, Integer> all = one;
        for (Map.Entry<String, Integer> said : two.entrySet()) {
            all = restrict(all, said.getKey(), said.getValue());
        }
        return all;
    }

    private static Map<String, Integer> either(Map<String, Integer> one, Map<String, Integer> two) {
        if (one == null || two == null) {
            return one == null ? two : one;
        }
        Map<String, Integer> all = new TreeMap<>();
        for (String place : one.keySet()) {
            all.put(place, says(one, place) | says(two, place));
        }
        return all;
    }

    private Known learn(Tree tree, Map<String, Integer> view, Map<Character, Meaning> scope) {
        if (view == null) {
            return new Known(0, null, null, null);
        }
        Known raw = learnRaw(tree, view, scope);
        return new Known(raw.type(), raw.place(), (raw.type() & 27) == 0 ? null : raw.yes(),
            (raw.type() & 4) == 0 ? null : raw.no());
    }

    private static Known atPlace(String place, Map<String, Integer> view) {
        return new Known(says(view, place), place, restrict(view, place, 27), restrict(view, place, 4));
    }

    private Known learnRaw(Tree tree, Map<String, Integer> view, Map<Character, Meaning> scope) {
        if (tree.parts.isEmpty()) {
            return learnLeaf(tree, view, scope);
        }
        Known e = learn(tree.parts.get(0), view, scope);
        switch (tree.op) {
            case '?': {
                Known f = learn(tree.parts.get(1), e.yes(), scope);
                Known g = learn(tree.parts.get(2), e.no(), scope);
                return new Known(f.type() | g.type(), null, either(f.yes(), g.yes()), either(f.no(), g.no()));
            }
            case '&': {
                Known f = learn(tree.parts.get(1), e.yes(), scope);
                Tree never = new Tree();
                never.op = '~';
                Known g = learn(never, e.no(), scope);
                return new Known(f.type() | g.type(), null, either(f.yes(), g.yes()), either(f.no(), g.no()));
            }
            case '|': {
                Known f = learn(tree.parts.get(1), e.no(), scope);
                return new Known(e.type() & 27 | f.type(), null, either(e.yes(), f.yes()), f.no());
            }
            case '!':
                return new Known((e.no() == null ? 0 : 2) | (e.yes() == null ? 0 : 4), null, e.no(), e.yes());
            case ':':
                return learnBinding(tree, e, view, scope);
            case 'A':
            case 'D':
                return learnHalf(tree, e, view);
            case 'N':
            case 'B':
            case 'E':
            case 'P':
                return learnTest(tree, e, view);
            case 'G':
            case 'H':
            case 'I':
                return learnCall(tree, e, view);
            default: {
                Known f = learn(tree.parts.get(1), view, scope);
                if (tree.op != 'C' && (e.type() > 1 || f.type() > 1)) {
                    throw new Stop(tree.at);
                }
                return new Known(tree.op == 'C' ? 16 : tree.op == '<' ? 6 : 1, null, view, view);
            }
        }
    }

    private static Known learnLeaf(Tree tree, Map<String, Integer> view, Map<Character, Meaning> scope) {
        Meaning meaning = scope.get(tree.op);
        if (meaning == null) {
            int i = "#~.".indexOf(tree.op);
            return new Known(i < 0 ? 1 : 2 << i, null, view, view);
        }
        Known here = atPlace(meaning.place(), view);
        return meaning.memory() == null ? here : new Known(here.type(), here.place(),
            both(here.yes(), meaning.memory().yes()), both(here.no(), meaning.memory().no()));
    }

    private static Known learnTest(Tree tree, Known e, Map<String, Integer> view) {
        int kinds = new int[] {1, 6, 8, 16}["NBEP".indexOf(tree.op)];
        int type = e.type() == 0 ? 0 : (e.type() | kinds) == kinds ? 2 : (e.type() & kinds) == 0 ? 4 : 6;
        return e.place() == null ? new Known(type, null, view, view)
            : new Known(type, null, restrict(view, e.place(), kinds), restrict(view, e.place(), 31 - kinds));
    }

    private static Known learnHalf(Tree tree, Known e, Map<String, Integer> view) {
        if ((e.type() | 16) != 16) {
            throw new Stop(tree.at);
        }
        if (e.type() == 0) {
            return new Known(0, null, null, null);
        }
        String place = e.place() == null ? null : e.place() + tree.op;
        return place == null || letters(place) > 2 ? new Known(31, null, view, view) : atPlace(place, view);
    }

    /** Places begin with a variable's small letter or number. */
    private static int letters(String place) {
        return place.length() - place.replace("A", "").replace("D", "").length();
    }

    private Known learnBinding(Tree tree, Known e, Map<String, Integer> view, Map<Character, Meaning> scope) {
        Map<Character, Meaning> behind = new HashMap<>(scope);
        if (e.place() != null) {
            behind.put(tree.name, new Meaning(e.place(), null));
            return learn(tree.parts.get(1), view, behind);
        }
        fresh++;
        String own = "x" + fresh + "x";
        behind.put(tree.name, new Meaning(own, e));
        Known f = learn(tree.parts.get(1), restrict(view, own, e.type()), behind);
        boolean leaves = f.place() != null && f.place().startsWith(own);
        return new Known(f.type(), leaves ? null : f.place(), f.yes(), f.no());
    }

    private Known learnCall(Tree tree, Known e, Map<String, Integer> view) {
        Fun function = functions.get(tree.op);
        if ((e.type() & ~function.parameterType) != 0) {
            throw new Stop(tree.at);
        }
        Map<String, Integer> yes = view;
        Map<String, Integer> no = view;
        if (e.place() != null) {
            for (String path : List.of("", "A", "D", "AA", "AD", "DA", "DD")) {
                if (letters(e.place() + path) <= 2) {
                    Map<String, Integer> ifView = function.known.yes();
                    Map<String, Integer> ifNotView = function.known.no();
                    yes = restrict(yes, e.place() + path, ifView == null ? 0 : says(ifView, "0" + path));
                    no = restrict(no, e.place() + path, ifNotView == null ? 0 : says(ifNotView, "0" + path));
                }
            }
        }
        return new Known(function.known.type(), null, yes, no);
    }

    private int go(Tree tree, Map<Character, Integer> scope) {
        if (begun == limit) {
            throw new Halt(0);
        }
        begun++;
        if (tree.parts.isEmpty()) {
            Integer bound = scope.get(tree.op);
            return bound != null ? bound : "#~.0123456789".indexOf(tree.op);
        }
        int e = go(tree.parts.get(0), scope);
        switch (tree.op) {
            case '?':
                return go(tree.parts.get(e != 1 ? 1 : 2), scope);
            case '&':
                return e != 1 ? go(tree.parts.get(1), scope) : 1;
            case '|':
                return e != 1 ? e : go(tree.parts.get(1), scope);
            case ':': {
                Map<Character, Integer> behind = new HashMap<>(scope);
                behind.put(tree.name, e);
                return go(tree.parts.get(1), behind);
            }
            case 'G':
            case 'H':
            case 'I': {
                Fun function = functions.get(tree.op);
                return go(function.body, Map.of(function.parameter, e));
            }
            case '!':
                return e == 1 ? 0 : 1;
            case 'N':
                return kind(e) == 1 ? 0 : 1;
            case 'B':
                return e == 0 || e == 1 ? 0 : 1;
            case 'E':
                return e == 2 ? 0 : 1;
            case 'P':
                return kind(e) == 16 ? 0 : 1;
            case 'A':
            case 'D':
                if (kind(e) != 16) {
                    throw new Halt(2);
                }
                return cells.get(e)[tree.op == 'A' ? 2 : 3];
            default:
                return goTwo(tree.op, e, go(tree.parts.get(1), scope));
        }
    }

    private int goTwo(char op, int e, int f) {
        if (op != 'C' && (kind(e) != 1 || kind(f) != 1)) {
            throw new Halt(2);
        }
        int one = cells.get(e)[1];
        int two = cells.get(f)[1];
        if (op == '<') {
            return one < two ? 0 : 1;
        }
        if (cells.size() == 64) {
            throw new Halt(3);
        }
        cells.add(op == 'C' ? new int[] {16, 0, e, f} : new int[] {1, op == '+' ? one + two : one - two, -1, -1});
        return cells.size() - 1;
    }

    private int kind(int cell) {
        return cells.get(cell)[0];
    }
}
