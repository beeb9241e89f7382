import java.util.NoSuchElementException;

/** A small Lisp, a checker that learns from tests, and a machine that runs what was read. */
public final class TypedLisp {
    private static final int NUMBER = 1;
    private static final int TRUE = 2;
    private static final int FALSE = 4;
    private static final int EMPTY = 8;
    private static final int PAIR = 16;
    private static final int ANY = 31;
    private static final int NOT_FALSE = ANY - FALSE;

    /** No place, no cell, no slot, no fault. */
    private static final int NONE = -1;
    private static final int TEXT_LIMIT = 60;
    private static final int BRACKETS = 6;
    private static final int FUNCTIONS = 3;
    private static final int INPUTS = 2;
    /** The letters a .. h. */
    private static final int NAMES = 8;
    private static final int FIRST_OWN_NAME = 2;

    /** The inputs (or the parameter, in the first); each ':' has 4 characters of its own, even if it does not end. */
    private static final int SLOTS = INPUTS + TEXT_LIMIT / 4;
    /** A variable with none, A, D, AA, AD, DA, DD behind it. */
    private static final int PATHS = 7;
    private static final int KIND_BITS = 5;
    /** Five bits for each of the seven paths, all of them set. */
    private static final long ALL_OF_ALL = (1L << 35) - 1L;

    /** Above what 6 brackets in the text and in each of 3 functions can need. */
    private static final int DEEPEST = 40;

    private static final int CELLS = 64;
    private static final int FIXED_CELLS = 13;
    private static final int KEPT_CELLS = 40;
    private static final int TRUE_CELL = 0;
    private static final int FALSE_CELL = 1;
    private static final int EMPTY_CELL = 2;
    private static final int ZERO_CELL = 3;

    private static final int STEP_LIMIT = 1000;
    private static final int NOT_ENDED = 0;
    private static final int HAS_VALUE = 1;
    private static final int WRONG_OPERAND = 2;
    private static final int NO_CELL_LEFT = 3;

    private final Text text;
    private final Function[] functions;
    private final Checker checker;
    private final View ifView;
    private final View ifNotView;
    private final Cells cells;
    private final int[] inputs;
    private Node atHand;
    private boolean accepted;
    private int faultPlace;
    private int latestSteps;
    private int latestValue;

    public TypedLisp() {
        text = new Text();
        functions = new Function[FUNCTIONS];
        checker = new Checker();
        ifView = new View();
        ifNotView = new View();
        cells = new Cells();
        inputs = new int[] {EMPTY_CELL, EMPTY_CELL};
        atHand = null;
        accepted = false;
        faultPlace = NONE;
        latestSteps = 0;
        latestValue = NONE;
    }

    public boolean type(char c) {
        return text.append(c);
    }

    public void wipe() {
        text.empty();
    }

    public int define() throws IllegalArgumentException, UnsupportedOperationException {
        Reader reader = new Reader(text, functions);
        Node body = reader.readDefinition();
        if (body == null) {
            faultPlace = reader.at;
            throw new IllegalArgumentException();
        }
        Finding found = checker.examineAll(body, reader.parameterType, functions);
        if (found == null) {
            faultPlace = checker.faultPlace;
            throw new UnsupportedOperationException();
        }
        faultPlace = NONE;
        keepFunction(reader.name, new Function(body, reader.parameterType, found));
        return found.kinds;
    }

    public int check() throws IllegalArgumentException, UnsupportedOperationException {
        Reader reader = new Reader(text, functions);
        Node read = reader.readExpression();
        if (read == null) {
            faultPlace = reader.at;
            throw new IllegalArgumentException();
        }
        atHand = read;
        Finding found = checker.examineAll(read, ANY, functions);
        accepted = found != null;
        if (found == null) {
            faultPlace = checker.faultPlace;
            throw new UnsupportedOperationException();
        }
        faultPlace = NONE;
        ifView.copy(found.yes);
        ifNotView.copy(found.no);
        return found.kinds;
    }

    public int fault() {
        return faultPlace;
    }

    public int view(boolean yes, int input, int letters) throws NoSuchElementException, IndexOutOfBoundsException {
        if (atHand == null || !accepted) {
            throw new NoSuchElementException();
        }
        if (input < 0 || input >= INPUTS || letters < 0 || letters >= PATHS) {
            throw new IndexOutOfBoundsException();
        }
        View asked = yes ? ifView : ifNotView;
        return asked.impossible ? NONE : asked.says(input * PATHS + letters);
    }

    public void forget() {
        for (int i = 0; i < FUNCTIONS; i++) {
            functions[i] = null;
        }
        atHand = null;
        accepted = false;
    }

    public int number(int v) throws IllegalStateException {
        if (cells.kept >= KEPT_CELLS) {
            throw new IllegalStateException();
        }
        latestValue = NONE;
        return cells.keepNumber(v);
    }

    public int pair(int first, int second) throws IllegalArgumentException, IllegalStateException {
        if (!cells.isKept(first) || !cells.isKept(second)) {
            throw new IllegalArgumentException();
        }
        if (cells.kept >= KEPT_CELLS) {
            throw new IllegalStateException();
        }
        latestValue = NONE;
        return cells.keepPair(first, second);
    }

    public void input(int which, int cell) throws IndexOutOfBoundsException, IllegalArgumentException {
        if (which < 0 || which >= INPUTS) {
            throw new IndexOutOfBoundsException();
        }
        if (!cells.isKept(cell)) {
            throw new IllegalArgumentException();
        }
        inputs[which] = cell;
    }

    public void clear() {
        cells.dropAll();
        inputs[0] = EMPTY_CELL;
        inputs[1] = EMPTY_CELL;
        latestValue = NONE;
    }

    public int run(int steps) throws NoSuchElementException, IllegalArgumentException {
        if (atHand == null) {
            throw new NoSuchElementException();
        }
        if (steps < 0 || steps > STEP_LIMIT) {
            throw new IllegalArgumentException();
        }
        cells.dropUnkept();
        Machine machine = new Machine(cells, functions, steps);
        latestValue = machine.evaluateAll(atHand, inputs[0], inputs[1]);
        latestSteps = machine.begun;
        return machine.ending;
    }

    public int steps() {
        return latestSteps;
    }

    public int result() {
        return latestValue;
    }

    public int count() {
        return cells.total;
    }

    public int cell(int i, int what) throws IndexOutOfBoundsException, IllegalArgumentException {
        if (i < 0 || i >= cells.total) {
            throw new IndexOutOfBoundsException();
        }
        if (what < 0 || what > 3) {
            throw new IllegalArgumentException();
        }
        return cells.part(i, what);
    }

    private void keepFunction(int name, Function function) {
        if (name >= 0 && name < FUNCTIONS) {
            functions[name] = function;
        }
    }

    private static int functionIndex(int c) {
        return c >= 'G' && c <= 'I' ? c - 'G' : NONE;
    }

    private static Function functionOf(Function[] functions, int c) {
        int i = functionIndex(c);
        return i == NONE || i >= functions.length ? null : functions[i];
    }

    private static int testedKinds(int op) {
        return op == 'N' ? NUMBER : op == 'B' ? TRUE + FALSE : op == 'E' ? EMPTY : PAIR;
    }

    /** The place behind another by one of the seven paths; NONE if that is more than two letters. */
    private static int reach(int place, int path) {
        int before = place % PATHS;
        if (path == 0) {
            return place;
        }
        if (before == 0) {
            return place + path;
        }
        return before <= 2 && path <= 2 ? place - before + 2 * before + path : NONE;
    }

    /** What is typed. */
    private static final class Text {
        private final char[] characters = new char[TEXT_LIMIT];
        private int length = 0;

        boolean append(char c) {
            if (length >= TEXT_LIMIT) {
                return false;
            }
            characters[length] = c;
            length++;
            return true;
        }

        void empty() {
            length = 0;
        }

        /** NONE behind the end, which is no character that any rule asks for. */
        int characterAt(int i) {
            return i >= 0 && i < length ? characters[i] : NONE;
        }
    }

    /** An expression as it was read. */
    private static final class Node {
        /** Its character, that behind the bracket if it has one. */
        final int op;
        final int at;
        /** Its number among those of its text. */
        final int index;
        /** Of the variable that it is, or that it binds. */
        final int slot;
        final Node first;
        final Node second;
        final Node third;

        Node(int op, int at, int index, int slot, Node first, Node second, Node third) {
            this.op = op;
            this.at = at;
            this.index = index;
            this.slot = slot;
            this.first = first;
            this.second = second;
            this.third = third;
        }
    }

    /** A function, and what the checker found of its expression. */
    private static final class Function {
        final Node body;
        final int parameterType;
        final int kinds;
        final long yesWord;
        final long noWord;

        Function(Node body, int parameterType, Finding found) {
            this.body = body;
            this.parameterType = parameterType;
            this.kinds = found.kinds;
            this.yesWord = found.yes.word(0);
            this.noWord = found.no.word(0);
        }
    }

    /**
     * Reads a text from its beginning. It goes on only over characters that can still be
     * completed, so that, where it answers null, it stands at the fault.
     */
    private static final class Reader {
        private final Text text;
        private final Function[] functions;
        /** By name, a .. h: NONE if it is not in scope. */
        private final int[] slots;
        private int nextSlot;
        private int nextIndex;
        int at;
        int name;
        int parameterType;

        Reader(Text text, Function[] functions) {
            this.text = text;
            this.functions = functions;
            slots = new int[] {NONE, NONE, NONE, NONE, NONE, NONE, NONE, NONE};
            nextSlot = INPUTS;
            nextIndex = 0;
            at = 0;
            name = NONE;
            parameterType = 0;
        }

        Node readExpression() {
            slots[0] = 0;
            slots[1] = 1;
            return readToEnd();
        }

        Node readDefinition() {
            name = functionIndex(peek());
            if (name == NONE || functionOf(functions, peek()) != null) {
                return null;
            }
            at++;
            int parameter = freeName(peek());
            if (parameter == NONE) {
                return null;
            }
            at++;
            parameterType = typeOf(peek());
            if (parameterType == 0) {
                return null;
            }
            at++;
            slots[parameter] = 0;
            return readToEnd();
        }

        private Node readToEnd() {
            Node all = readPart(0);
            return all != null && peek() == NONE ? all : null;
        }

        private Node readPart(int depth) {
            int c = peek();
            if (c == '(') {
                return depth < BRACKETS ? readBracket(depth + 1) : null;
            }
            int slot = slotOf(c);
            if (slot == NONE && !isConstant(c)) {
                return null;
            }
            at++;
            return newNode(c, at - 1, slot, null, null, null);
        }

        private Node readBracket(int depth) {
            int start = at;
            at++;
            int op = peek();
            int parts = partsOf(op);
            if (parts == 0) {
                return null;
            }
            at++;
            Node node = op == ':' ? readBinding(start, depth) : readOperation(op, parts, start, depth);
            if (node == null || peek() != ')') {
                return null;
            }
            at++;
            return node;
        }

        private Node readOperation(int op, int parts, int start, int depth) {
            Node first = readPart(depth);
            if (first == null) {
                return null;
            }
            Node second = parts >= 2 ? readPart(depth) : null;
            if (second == null && parts >= 2) {
                return null;
            }
            Node third = parts >= 3 ? readPart(depth) : null;
            if (third == null && parts >= 3) {
                return null;
            }
            return newNode(op, start, NONE, first, second, third);
        }

        private Node readBinding(int start, int depth) {
            int bound = freeName(peek());
            if (bound == NONE) {
                return null;
            }
            at++;
            Node first = readPart(depth);
            if (first == null || nextSlot >= SLOTS) {
                return null;
            }
            // Each binding has a slot of its own: a remembered view may tell of one whose name is free again.
            int slot = nextSlot;
            nextSlot++;
            slots[bound] = slot;
            Node second = readPart(depth);
            slots[bound] = NONE;
            return second == null ? null : newNode(':', start, slot, first, second, null);
        }

        private Node newNode(int op, int start, int slot, Node first, Node second, Node third) {
            int index = nextIndex;
            nextIndex++;
            return new Node(op, start, index, slot, first, second, third);
        }

        private int peek() {
            return text.characterAt(at);
        }

        private int slotOf(int c) {
            return c >= 'a' && c < 'a' + NAMES ? slots[c - 'a'] : NONE;
        }

        /** The number of a name that may be bound here. */
        private int freeName(int c) {
            int i = c - 'a';
            return i >= FIRST_OWN_NAME && i < NAMES && slots[i] == NONE ? i : NONE;
        }

        private boolean hasFreeName() {
            for (int i = FIRST_OWN_NAME; i < NAMES; i++) {
                if (slots[i] == NONE) {
                    return true;
                }
            }
            return false;
        }

        private static boolean isConstant(int c) {
            return c >= '0' && c <= '9' || c == '#' || c == '~' || c == '.';
        }

        private static int typeOf(int c) {
            switch (c) {
                case '*':
                    return ANY;
                case 'n':
                    return NUMBER;
                case 'b':
                    return TRUE + FALSE;
                case 'l':
                    return EMPTY + PAIR;
                case 'p':
                    return PAIR;
                default:
                    return 0;
            }
        }

        /** How many expressions stand behind it; 0 if it can't stand behind a bracket here. */
        private int partsOf(int op) {
            switch (op) {
                case 'N':
                case 'B':
                case 'E':
                case 'P':
                case '!':
                case 'A':
                case 'D':
                    return 1;
                case 'C':
                case '+':
                case '-':
                case '<':
                case '&':
                case '|':
                    return 2;
                case '?':
                    return 3;
                case ':':
                    // Without a name to bind, no text that goes on from here is an expression.
                    return hasFreeName() ? 2 : 0;
                default:
                    return functionOf(functions, op) != null ? 1 : 0;
            }
        }
    }

    /** Of which kinds each place may be: a word for each slot, five bits for each path. */
    private static final class View {
        private final long[] words = new long[SLOTS];
        boolean impossible = false;

        void sayAnything() {
            impossible = false;
            for (int i = 0; i < SLOTS; i++) {
                words[i] = ALL_OF_ALL;
            }
        }

        void sayNothing() {
            impossible = true;
            for (int i = 0; i < SLOTS; i++) {
                words[i] = 0L;
            }
        }

        void copy(View other) {
            impossible = other.impossible;
            for (int i = 0; i < SLOTS; i++) {
                words[i] = other.words[i];
            }
        }

        long word(int slot) {
            return slot >= 0 && slot < SLOTS ? words[slot] : 0L;
        }

        int says(int place) {
            return place < 0 ? 0 : kindsIn(word(place / PATHS), place % PATHS);
        }

        void restrict(int place, int kinds) {
            if (place < 0 || place >= SLOTS * PATHS) {
                return;
            }
            int slot = place / PATHS;
            int path = place % PATHS;
            long others = ANY & ~kinds;
            words[slot] &= ~(others << KIND_BITS * path);
            if (kindsIn(words[slot], path) == 0) {
                sayNothing();
            }
        }

        /** Restricts what is reached from the place to what the word says of the parameter. */
        void restrictFrom(int place, long word) {
            for (int path = 0; path < PATHS; path++) {
                int reached = reach(place, path);
                if (reached != NONE) {
                    restrict(reached, kindsIn(word, path));
                }
            }
        }

        void keepBoth(View other) {
            boolean none = impossible || other.impossible;
            for (int i = 0; i < SLOTS; i++) {
                words[i] &= other.words[i];
                none = none || lacksKinds(words[i]);
            }
            if (none) {
                sayNothing();
            }
        }

        /** An impossible one has no kinds at all, so that the other one is left. */
        void allowEither(View other) {
            impossible = impossible && other.impossible;
            for (int i = 0; i < SLOTS; i++) {
                words[i] |= other.words[i];
            }
        }

        private static int kindsIn(long word, int path) {
            return (int) (word >>> KIND_BITS * path) & ANY;
        }

        private static boolean lacksKinds(long word) {
            for (int path = 0; path < PATHS; path++) {
                if (kindsIn(word, path) == 0) {
                    return true;
                }
            }
            return false;
        }
    }

    /** What the checker finds of one expression. */
    private static final class Finding {
        int kinds = 0;
        int place = NONE;
        final View yes = new View();
        final View no = new View();

        void assign(int newKinds, int newPlace, View view) {
            kinds = newKinds;
            place = newPlace;
            yes.copy(view);
            no.copy(view);
        }

        void beUnchecked() {
            kinds = 0;
            place = NONE;
            yes.sayNothing();
            no.sayNothing();
        }

        void settle() {
            if ((kinds & FALSE) == 0) {
                no.sayNothing();
            }
            if ((kinds & NOT_FALSE) == 0) {
                yes.sayNothing();
            }
        }
    }

    /** Where it answers null or false, it has met an operand of a wrong type, and faultPlace tells where. */
    private static final class Checker {
        /** By a node's index: a text has no more expressions than characters. */
        private final Finding[] findings = new Finding[TEXT_LIMIT];
        /** By slot: the view in which what stands behind a binding is checked. */
        private final View[] inner = new View[SLOTS];
        private final int[] places = new int[SLOTS];
        /** By slot: null where there is nothing to remember. */
        private final Finding[] remembered = new Finding[SLOTS];
        private final View start = new View();
        private Function[] functions = null;
        int faultPlace = NONE;

        Checker() {
            for (int i = 0; i < TEXT_LIMIT; i++) {
                findings[i] = new Finding();
            }
            for (int i = 0; i < SLOTS; i++) {
                inner[i] = new View();
            }
        }

        Finding examineAll(Node root, int firstType, Function[] known) {
            functions = known;
            faultPlace = NONE;
            start.sayAnything();
            start.restrict(0, firstType);
            for (int i = 0; i < SLOTS; i++) {
                places[i] = i * PATHS;
                remembered[i] = null;
            }
            return examine(root, start, 0);
        }

        private Finding examine(Node node, View view, int depth) {
            if (node == null || node.index < 0 || node.index >= TEXT_LIMIT || depth > DEEPEST) {
                return null;
            }
            Finding found = findings[node.index];
            if (view.impossible) {
                found.beUnchecked();
                return found;
            }
            if (!examineKind(node, view, found, depth + 1)) {
                return null;
            }
            found.settle();
            return found;
        }

        private boolean examineKind(Node node, View view, Finding found, int depth) {
            switch (node.op) {
                case 'N':
                case 'B':
                case 'E':
                case 'P':
                    return examineTest(node, view, found, depth);
                case '!':
                    return examineNot(node, view, found, depth);
                case 'A':
                case 'D':
                    return examineHalf(node, view, found, depth);
                case 'C':
                case '+':
                case '-':
                case '<':
                    return examineTwo(node, view, found, depth);
                case '?':
                    return examineChoice(node, view, found, depth);
                case '&':
                    return examineAnd(node, view, found, depth);
                case '|':
                    return examineOr(node, view, found, depth);
                case ':':
                    return examineBinding(node, view, found, depth);
                case 'G':
                case 'H':
                case 'I':
                    return examineCall(node, view, found, depth);
                default:
                    return node.slot == NONE ? examineConstant(node, view, found) : examineVariable(node, view, found);
            }
        }

        private boolean examineConstant(Node node, View view, Finding found) {
            int kind = node.op == '#' ? TRUE : node.op == '~' ? FALSE : node.op == '.' ? EMPTY : NUMBER;
            found.assign(kind, NONE, view);
            return true;
        }

        private boolean examineVariable(Node node, View view, Finding found) {
            if (node.slot < 0 || node.slot >= SLOTS) {
                return refuse(node);
            }
            assignPlace(places[node.slot], view, found);
            Finding memory = remembered[node.slot];
            if (memory != null) {
                found.yes.keepBoth(memory.yes);
                found.no.keepBoth(memory.no);
            }
            return true;
        }

        private void assignPlace(int place, View view, Finding found) {
            found.assign(view.says(place), place, view);
            found.yes.restrict(place, NOT_FALSE);
            found.no.restrict(place, FALSE);
        }

        private boolean examineTest(Node node, View view, Finding found, int depth) {
            Finding operand = examine(node.first, view, depth);
            if (operand == null) {
                return false;
            }
            int asked = testedKinds(node.op);
            int kinds = (operand.kinds & asked) != 0 ? TRUE : 0;
            if ((operand.kinds & ~asked) != 0) {
                kinds += FALSE;
            }
            found.assign(kinds, NONE, view);
            if (operand.place != NONE) {
                found.yes.restrict(operand.place, asked);
                found.no.restrict(operand.place, ANY & ~asked);
            }
            return true;
        }

        private boolean examineNot(Node node, View view, Finding found, int depth) {
            Finding operand = examine(node.first, view, depth);
            if (operand == null) {
                return false;
            }
            found.kinds = (operand.no.impossible ? 0 : TRUE) + (operand.yes.impossible ? 0 : FALSE);
            found.place = NONE;
            found.yes.copy(operand.no);
            found.no.copy(operand.yes);
            return true;
        }

        private boolean examineHalf(Node node, View view, Finding found, int depth) {
            Finding operand = examine(node.first, view, depth);
            if (operand == null) {
                return false;
            }
            if ((operand.kinds & ~PAIR) != 0) {
                return refuse(node);
            }
            int place = operand.place == NONE ? NONE : reach(operand.place, node.op == 'A' ? 1 : 2);
            if (operand.kinds == 0 || place == NONE) {
                found.assign(operand.kinds == 0 ? 0 : ANY, NONE, view);
            } else {
                assignPlace(place, view, found);
            }
            return true;
        }

        private boolean examineTwo(Node node, View view, Finding found, int depth) {
            Finding first = examine(node.first, view, depth);
            Finding second = first == null ? null : examine(node.second, view, depth);
            if (first == null || second == null) {
                return false;
            }
            if (node.op != 'C' && ((first.kinds | second.kinds) & ~NUMBER) != 0) {
                return refuse(node);
            }
            found.assign(node.op == 'C' ? PAIR : node.op == '<' ? TRUE + FALSE : NUMBER, NONE, view);
            return true;
        }

        private boolean examineChoice(Node node, View view, Finding found, int depth) {
            Finding asked = examine(node.first, view, depth);
            Finding then = asked == null ? null : examine(node.second, asked.yes, depth);
            Finding other = asked == null || then == null ? null : examine(node.third, asked.no, depth);
            if (asked == null || then == null || other == null) {
                return false;
            }
            found.kinds = then.kinds | other.kinds;
            found.place = NONE;
            found.yes.copy(then.yes);
            found.yes.allowEither(other.yes);
            found.no.copy(then.no);
            found.no.allowEither(other.no);
            return true;
        }

        private boolean examineAnd(Node node, View view, Finding found, int depth) {
            Finding asked = examine(node.first, view, depth);
            Finding then = asked == null ? null : examine(node.second, asked.yes, depth);
            if (asked == null || then == null) {
                return false;
            }
            found.kinds = then.kinds | (asked.no.impossible ? 0 : FALSE);
            found.place = NONE;
            found.yes.copy(then.yes);
            found.no.copy(then.no);
            found.no.allowEither(asked.no);
            return true;
        }

        private boolean examineOr(Node node, View view, Finding found, int depth) {
            Finding asked = examine(node.first, view, depth);
            Finding other = asked == null ? null : examine(node.second, asked.no, depth);
            if (asked == null || other == null) {
                return false;
            }
            found.kinds = asked.kinds & NOT_FALSE | other.kinds;
            found.place = NONE;
            found.yes.copy(asked.yes);
            found.yes.allowEither(other.yes);
            found.no.copy(other.no);
            return true;
        }

        private boolean examineBinding(Node node, View view, Finding found, int depth) {
            Finding bound = examine(node.first, view, depth);
            if (bound == null) {
                return false;
            }
            if (node.slot < 0 || node.slot >= SLOTS) {
                return refuse(node);
            }
            View within = inner[node.slot];
            within.copy(view);
            int own = node.slot * PATHS;
            boolean isOwn = bound.place == NONE;
            if (isOwn) {
                within.restrict(own, bound.kinds);
            }
            places[node.slot] = isOwn ? own : bound.place;
            remembered[node.slot] = isOwn ? bound : null;
            Finding body = examine(node.second, within, depth);
            if (body == null) {
                return false;
            }
            boolean leaves = body.place != NONE && body.place / PATHS == node.slot;
            found.kinds = body.kinds;
            found.place = leaves ? NONE : body.place;
            found.yes.copy(body.yes);
            found.no.copy(body.no);
            return true;
        }

        private boolean examineCall(Node node, View view, Finding found, int depth) {
            Finding operand = examine(node.first, view, depth);
            if (operand == null) {
                return false;
            }
            Function function = functions == null ? null : functionOf(functions, node.op);
            if (function == null || (operand.kinds & ~function.parameterType) != 0) {
                return refuse(node);
            }
            found.assign(function.kinds, NONE, view);
            if (operand.place != NONE) {
                found.yes.restrictFrom(operand.place, function.yesWord);
                found.no.restrictFrom(operand.place, function.noWord);
            }
            return true;
        }

        private boolean refuse(Node node) {
            faultPlace = node.at;
            return false;
        }
    }

    /** The fixed cells, behind them those that are kept, behind them those of the latest run. */
    private static final class Cells {
        private final int[] kinds = new int[CELLS];
        private final int[] numbers = new int[CELLS];
        private final int[] firsts = new int[CELLS];
        private final int[] seconds = new int[CELLS];
        int kept = 0;
        int total = FIXED_CELLS;

        Cells() {
            kinds[TRUE_CELL] = TRUE;
            kinds[FALSE_CELL] = FALSE;
            kinds[EMPTY_CELL] = EMPTY;
            for (int i = 0; i < FIXED_CELLS; i++) {
                firsts[i] = NONE;
                seconds[i] = NONE;
                if (i >= ZERO_CELL) {
                    kinds[i] = NUMBER;
                    numbers[i] = i - ZERO_CELL;
                }
            }
        }

        boolean isKept(int i) {
            return i >= 0 && i < FIXED_CELLS + kept;
        }

        void dropUnkept() {
            total = FIXED_CELLS + kept;
        }

        void dropAll() {
            kept = 0;
            total = FIXED_CELLS;
        }

        int keepNumber(int v) {
            dropUnkept();
            kept++;
            return addNumber(v);
        }

        int keepPair(int first, int second) {
            dropUnkept();
            kept++;
            return addPair(first, second);
        }

        /** NONE if there is no room. */
        int addNumber(int v) {
            return add(NUMBER, v, NONE, NONE);
        }

        int addPair(int first, int second) {
            return add(PAIR, 0, first, second);
        }

        private int add(int kind, int v, int first, int second) {
            if (total < 0 || total >= CELLS) {
                return NONE;
            }
            int i = total;
            kinds[i] = kind;
            numbers[i] = v;
            firsts[i] = first;
            seconds[i] = second;
            total++;
            return i;
        }

        /** Its kind (0), its number (1), its halves (2, 3). */
        int part(int i, int what) {
            if (i < 0 || i >= total || i >= CELLS) {
                return NONE;
            }
            return what == 0 ? kinds[i] : what == 1 ? numbers[i] : what == 2 ? firsts[i] : seconds[i];
        }

        boolean isOf(int i, int asked) {
            return i >= 0 && i < total && i < CELLS && (kinds[i] & asked) != 0;
        }
    }

    /** One run. Where it answers NONE instead of a cell, the run is over, and ending tells why. */
    private static final class Machine {
        private final Cells cells;
        private final Function[] functions;
        private final int limit;
        /** By how many functions stand open, and by slot. */
        private final int[][] values;
        int begun;
        int ending;

        Machine(Cells cells, Function[] functions, int limit) {
            this.cells = cells;
            this.functions = functions;
            this.limit = limit;
            values = new int[FUNCTIONS + 1][SLOTS];
            begun = 0;
            ending = NOT_ENDED;
        }

        int evaluateAll(Node root, int a, int b) {
            values[0][0] = a;
            values[0][1] = b;
            int value = evaluate(root, 0, 0);
            if (value != NONE) {
                ending = HAS_VALUE;
            }
            return value;
        }

        private int evaluate(Node node, int level, int depth) {
            if (node == null || depth > DEEPEST || begun >= limit) {
                return NONE;
            }
            begun++;
            if (node.first == null) {
                return leafValue(node, level);
            }
            int first = evaluate(node.first, level, depth + 1);
            if (first == NONE) {
                return NONE;
            }
            switch (node.op) {
                case '?':
                    return evaluate(first == FALSE_CELL ? node.third : node.second, level, depth + 1);
                case '&':
                    return first == FALSE_CELL ? FALSE_CELL : evaluate(node.second, level, depth + 1);
                case '|':
                    return first == FALSE_CELL ? evaluate(node.second, level, depth + 1) : first;
                case ':':
                    return assign(level, node.slot, first) ? evaluate(node.second, level, depth + 1) : NONE;
                case 'G':
                case 'H':
                case 'I':
                    return evaluateBody(functionOf(functions, node.op), first, level + 1, depth + 1);
                case 'C':
                case '+':
                case '-':
                case '<':
                    return applyToTwo(node.op, first, evaluate(node.second, level, depth + 1));
                default:
                    return applyToOne(node.op, first);
            }
        }

        private int evaluateBody(Function function, int argument, int level, int depth) {
            if (function == null || !assign(level, 0, argument)) {
                return NONE;
            }
            return evaluate(function.body, level, depth);
        }

        private int leafValue(Node node, int level) {
            if (node.slot >= 0 && node.slot < SLOTS && level >= 0 && level <= FUNCTIONS) {
                return values[level][node.slot];
            }
            switch (node.op) {
                case '#':
                    return TRUE_CELL;
                case '~':
                    return FALSE_CELL;
                case '.':
                    return EMPTY_CELL;
                default:
                    return ZERO_CELL + node.op - '0';
            }
        }

        private boolean assign(int level, int slot, int value) {
            if (slot < 0 || slot >= SLOTS || level < 0 || level > FUNCTIONS) {
                return false;
            }
            values[level][slot] = value;
            return true;
        }

        private int applyToOne(int op, int operand) {
            if (op == '!') {
                return operand == FALSE_CELL ? TRUE_CELL : FALSE_CELL;
            }
            if (op != 'A' && op != 'D') {
                return cells.isOf(operand, testedKinds(op)) ? TRUE_CELL : FALSE_CELL;
            }
            if (!cells.isOf(operand, PAIR)) {
                return fail(WRONG_OPERAND);
            }
            return cells.part(operand, op == 'A' ? 2 : 3);
        }

        private int applyToTwo(int op, int first, int second) {
            if (second == NONE) {
                return NONE;
            }
            if (op == 'C') {
                return madeOrFailed(cells.addPair(first, second));
            }
            if (!cells.isOf(first, NUMBER) || !cells.isOf(second, NUMBER)) {
                return fail(WRONG_OPERAND);
            }
            int one = cells.part(first, 1);
            int two = cells.part(second, 1);
            if (op == '<') {
                return one < two ? TRUE_CELL : FALSE_CELL;
            }
            return madeOrFailed(cells.addNumber(op == '+' ? one + two : one - two));
        }

        private int madeOrFailed(int made) {
            return made == NONE ? fail(NO_CELL_LEFT) : made;
        }

        private int fail(int how) {
            ending = how;
            return NONE;
        }
    }
}
