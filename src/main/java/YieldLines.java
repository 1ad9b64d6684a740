/**
 * A small language whose expressions yield rows of results, one by one, told as texts, run line by
 * line, and taken back. The words in capitals are the document's.
 */
public final class YieldLines {
    public static final int NONE = -1999999, BAD = -2000000, NO = -2000001, FULL = -2000002;

    private static final int MOST_NUMBER = 999999;
    private static final int NAMES = 4;
    private static final int MOST_BYTES = 150;
    private static final int MOST_LINES = 8;
    private static final int MOST_NODES = 60;
    private static final int MOST_OPEN = 9;
    private static final int MOST_FIGURES = 3;
    private static final int MOST_STATES = 5;
    private static final int MOST_SAID = 30;
    private static final int MOST_WORK = 1000;
    private static final int KINDS_OF_ANSWER = 4;
    private static final int KINDS_OF_TOLD = 7;

    /** The kinds of NODES that have no sign of their own; the kind of each other is its sign. */
    private static final int NUMBER = '0', NAME = 'a';

    private final int[] text = new int[MOST_BYTES];
    private int length;
    private final State state = new State();
    private final Reader reader = new Reader();
    private final History history = new History();
    private final Machine machine = new Machine(state);
    private final Outcome outcome = new Outcome();
    private int badCount;
    private int noCount;
    private int fullCount;

    public YieldLines() {
    }

    // ---- programs

    public int type(int c) {
        if (c < 0 || c > 127) {
            return bad();
        }
        if (length >= MOST_BYTES) {
            fullCount++;
            return FULL;
        }
        text[length] = c;
        length++;
        return length;
    }

    public int clear() {
        int had = length;
        length = 0;
        return had;
    }

    public int reads() {
        int fault = reader.faultOf(text, length);
        if (fault != Reader.NO_FAULT) {
            return -10 - fault;
        }
        leaveState();
        state.takeProgram(reader.draft);
        return state.lines;
    }

    public int value(int x, int v) {
        if (!isName(x) || !isNumber(v)) {
            return bad();
        }
        leaveState();
        int was = state.values[x];
        state.values[x] = v;
        return was;
    }

    public int drops(int k) {
        if (!isLine(k)) {
            return bad();
        }
        leaveState();
        state.dropLine(k);
        return state.lines;
    }

    public int line(int k, int what) {
        if (!isLine(k) || !isBelow(what, KINDS_OF_ANSWER)) {
            return bad();
        }
        return ofLine(k, what);
    }

    // ---- runs

    public int run(int what) {
        if (!isBelow(what, KINDS_OF_ANSWER)) {
            return bad();
        }
        outcome.make(machine, state);
        return ofRun(what);
    }

    public int said(int i) {
        if (i < 0) {
            return bad();
        }
        outcome.make(machine, state);
        return outcome.saidAt(i);
    }

    public int did(int k, int what) {
        if (!isLine(k) || !isBelow(what, KINDS_OF_ANSWER)) {
            return bad();
        }
        outcome.make(machine, state);
        return ofDone(k, what);
    }

    public int ends(int x) {
        if (!isName(x)) {
            return bad();
        }
        outcome.make(machine, state);
        return outcome.ends[x];
    }

    public int alone(int k, int i) {
        if (!isLine(k) || i < 0) {
            return bad();
        }
        machine.beginRun();
        machine.beginLine(state.root[k]);
        for (int n = 0; n < MOST_SAID && n <= i; n++) {
            if (!machine.ask(state.root[k], 0)) {
                return NONE;
            }
            if (n == i) {
                return machine.result;
            }
        }
        return NONE;
    }

    // ---- what there is

    public int back() {
        if (history.count == 0) {
            noCount++;
            return NO;
        }
        history.takeInto(state);
        outcome.isMade = false;
        return history.count;
    }

    public int told(int what) {
        if (!isBelow(what, KINDS_OF_TOLD)) {
            return bad();
        }
        return ofAll(what);
    }

    public long digest() {
        outcome.make(machine, state);
        long h = 2467;
        for (int what = 0; what < KINDS_OF_TOLD; what++) {
            h = 31 * h + ofAll(what);
        }
        for (int x = 0; x < NAMES; x++) {
            h = 31 * h + state.values[x];
        }
        for (int k = 0; k < state.lines; k++) {
            h = withLine(h, k);
        }
        for (int what = 0; what < KINDS_OF_ANSWER; what++) {
            h = 31 * h + ofRun(what);
        }
        for (int i = 0; i < outcome.saidCount; i++) {
            h = 31 * h + outcome.saidAt(i);
        }
        for (int x = 0; x < NAMES; x++) {
            h = 31 * h + outcome.ends[x];
        }
        return h;
    }

    private long withLine(long before, int k) {
        long h = before;
        for (int what = 0; what < KINDS_OF_ANSWER; what++) {
            h = 31 * h + ofLine(k, what);
        }
        for (int what = 0; what < KINDS_OF_ANSWER; what++) {
            h = 31 * h + ofDone(k, what);
        }
        return h;
    }

    // The answers without their refusals, so that digest asks nothing that could be counted.

    private int ofLine(int k, int what) {
        switch (what) {
            case 0:
                return state.every[k];
            case 1:
                return state.nodes[k];
            case 2:
                return state.names[k];
            default:
                return state.targets[k];
        }
    }

    private int ofRun(int what) {
        switch (what) {
            case 0:
                return outcome.saidCount;
            case 1:
                return outcome.silentLines(state.lines);
            case 2:
                return sumOfLines(outcome.lineCut);
            default:
                return sumOfLines(outcome.lineWork);
        }
    }

    private int ofDone(int k, int what) {
        switch (what) {
            case 0:
                return outcome.lineSaid[k];
            case 1:
                return outcome.lineWork[k];
            case 2:
                return outcome.lineCut[k];
            default:
                return outcome.lineLast[k];
        }
    }

    private int ofAll(int what) {
        switch (what) {
            case 0:
                return badCount;
            case 1:
                return noCount;
            case 2:
                return fullCount;
            case 3:
                return length;
            case 4:
                return state.lines;
            case 5:
                return sumOfLines(state.nodes);
            default:
                return history.count;
        }
    }

    private int sumOfLines(int[] ofEach) {
        int sum = 0;
        for (int k = 0; k < state.lines && k < ofEach.length; k++) {
            sum += ofEach[k];
        }
        return sum;
    }

    private void leaveState() {
        history.leave(state);
        outcome.isMade = false;
    }

    private int bad() {
        badCount++;
        return BAD;
    }

    private boolean isLine(int k) {
        return isBelow(k, state.lines);
    }

    private static boolean isName(int x) {
        return x >= 0 && x < NAMES;
    }

    private static boolean isBelow(int n, int bound) {
        return n >= 0 && n < bound;
    }

    private static boolean isNode(int node) {
        return node >= 0 && node < MOST_NODES;
    }

    private static boolean isNumber(long n) {
        return n >= -MOST_NUMBER && n <= MOST_NUMBER;
    }

    /** THE PROGRAM and the VALUES to begin with: what one goes back to. */
    private static final class State {
        final int[] kind = new int[MOST_NODES];
        final int[] left = new int[MOST_NODES];
        /** The only part of a NODE that has one, the second of one that has two. */
        final int[] right = new int[MOST_NODES];
        /** A NUMBER itself; which NAME; how many come through a \. */
        final int[] number = new int[MOST_NODES];
        final int[] root = new int[MOST_LINES];
        final int[] every = new int[MOST_LINES];
        final int[] nodes = new int[MOST_LINES];
        final int[] names = new int[MOST_LINES];
        final int[] targets = new int[MOST_LINES];
        final int[] values = new int[NAMES];
        int lines;

        void takeAll(State other) {
            takeProgram(other);
            System.arraycopy(other.values, 0, values, 0, NAMES);
        }

        void takeProgram(State other) {
            System.arraycopy(other.kind, 0, kind, 0, MOST_NODES);
            System.arraycopy(other.left, 0, left, 0, MOST_NODES);
            System.arraycopy(other.right, 0, right, 0, MOST_NODES);
            System.arraycopy(other.number, 0, number, 0, MOST_NODES);
            System.arraycopy(other.root, 0, root, 0, MOST_LINES);
            System.arraycopy(other.every, 0, every, 0, MOST_LINES);
            System.arraycopy(other.nodes, 0, nodes, 0, MOST_LINES);
            System.arraycopy(other.names, 0, names, 0, MOST_LINES);
            System.arraycopy(other.targets, 0, targets, 0, MOST_LINES);
            lines = other.lines;
        }

        /**
         * The NODES of the dropped LINE keep their places: a PROGRAM only ever grows by being read
         * whole, so nothing needs the room.
         */
        void dropLine(int k) {
            if (!isBelow(k, lines)) {
                return;
            }
            for (int at = k; at + 1 < lines && at + 1 < MOST_LINES; at++) {
                root[at] = root[at + 1];
                every[at] = every[at + 1];
                nodes[at] = nodes[at + 1];
                names[at] = names[at + 1];
                targets[at] = targets[at + 1];
            }
            lines--;
        }
    }

    /** The STATES to go back to, in a ring of rows made once. */
    private static final class History {
        private final State[] ring = new State[MOST_STATES];
        private int oldest;
        int count;

        History() {
            for (int at = 0; at < MOST_STATES; at++) {
                ring[at] = new State();
            }
        }

        void leave(State now) {
            State free = ring[Math.floorMod(oldest + count, MOST_STATES)];
            if (free != null) {
                free.takeAll(now);
            }
            if (count < MOST_STATES) {
                count++;
            } else {
                oldest = Math.floorMod(oldest + 1, MOST_STATES);
            }
        }

        void takeInto(State now) {
            if (count == 0) {
                return;
            }
            count--;
            State last = ring[Math.floorMod(oldest + count, MOST_STATES)];
            if (last != null) {
                now.takeAll(last);
            }
        }
    }

    /**
     * Reads a text byte by byte into a draft. Each byte is taken or can not stand there, so the
     * first one refused is the FAULT. A sign that waits for its right part stands on a pile, as the
     * place of its NODE, and so does each ( that is open.
     */
    private static final class Reader {
        static final int NO_FAULT = -1;
        private static final int OPEN = -1;
        /** What is due next: a LINE, a UNIT, the figure of a \ , or what follows a UNIT. */
        private static final int LINE_DUE = 0, UNIT_DUE = 1, FIGURE_DUE = 2, REST_DUE = 3;
        /** How tightly the outermost signs, and the innermost, hold their right part. */
        private static final int TARGET_LEVEL = 1, NOT_LEVEL = 8;

        final State draft = new State();
        private final int[] pile = new int[MOST_NODES + MOST_OPEN];
        /** 0 for a ( , so that nothing is joined across it. */
        private final int[] pileLevel = new int[MOST_NODES + MOST_OPEN];
        private int piled;
        private int open;
        private int due;
        private int nodeCount;
        private int nodesBefore;
        /** The NODE that is whole up to here, when the rest is due. */
        private int whole;
        /** The number that the last byte was a figure of, and its figures; 0 if it was none. */
        private int numberNode;
        private int figures;

        int faultOf(int[] text, int length) {
            draft.lines = 0;
            piled = 0;
            open = 0;
            due = LINE_DUE;
            nodeCount = 0;
            figures = 0;
            for (int at = 0; at < length && at < text.length; at++) {
                if (!takes(text[at])) {
                    return at;
                }
            }
            return due == LINE_DUE ? NO_FAULT : length;
        }

        private boolean takes(int c) {
            if (figures > 0 && isFigure(c)) {
                return takesMoreOfNumber(c);
            }
            figures = 0;
            if (c == ' ') {
                return true;
            }
            switch (due) {
                case LINE_DUE:
                    return beginsLine(c == '*') && (c == '*' || takesUnit(c));
                case UNIT_DUE:
                    return takesUnit(c);
                case FIGURE_DUE:
                    return takesFigure(c);
                default:
                    return takesRest(c);
            }
        }

        private boolean takesMoreOfNumber(int c) {
            if (figures >= MOST_FIGURES || !isNode(numberNode)) {
                return false;
            }
            draft.number[numberNode] = 10 * draft.number[numberNode] + (c - '0');
            figures++;
            return true;
        }

        private boolean beginsLine(boolean every) {
            int k = draft.lines;
            if (!isBelow(k, MOST_LINES)) {
                return false;
            }
            nodesBefore = nodeCount;
            draft.every[k] = every ? 1 : 0;
            draft.names[k] = 0;
            draft.targets[k] = 0;
            due = UNIT_DUE;
            return true;
        }

        private boolean takesUnit(int c) {
            if (isFigure(c)) {
                return takesLeaf(NUMBER, c - '0');
            }
            if (c >= 'a' && isName(c - 'a')) {
                return takesLeaf(NAME, c - 'a');
            }
            if (c == '!') {
                return hasRoom() && piles(newNode('!', 0), NOT_LEVEL);
            }
            if (c == '(' && open < MOST_OPEN) {
                open++;
                return piles(OPEN, 0);
            }
            return false;
        }

        private boolean takesLeaf(int kind, int number) {
            if (!hasRoom()) {
                return false;
            }
            int node = newNode(kind, number);
            if (kind == NUMBER) {
                numberNode = node;
                figures = 1;
            } else {
                noteName(draft.names, number);
            }
            join(node, NOT_LEVEL);
            return true;
        }

        private boolean takesFigure(int c) {
            if (!isFigure(c) || !isNode(whole)) {
                return false;
            }
            draft.number[whole] = c - '0';
            due = REST_DUE;
            return true;
        }

        private boolean takesRest(int c) {
            switch (c) {
                case ';':
                    return endsLine();
                case ')':
                    return closes();
                case '\\':
                    return takesFirst();
                case ':':
                case '^':
                    return takesTarget(c);
                default:
                    return takesBetween(c);
            }
        }

        private boolean endsLine() {
            int k = draft.lines;
            if (open > 0 || !isBelow(k, MOST_LINES)) {
                return false;
            }
            join(whole, TARGET_LEVEL);
            draft.root[k] = whole;
            draft.nodes[k] = nodeCount - nodesBefore;
            draft.lines++;
            due = LINE_DUE;
            return true;
        }

        private boolean closes() {
            if (open == 0) {
                return false;
            }
            join(whole, TARGET_LEVEL);
            // Only the ( itself is left on top now.
            piled = Math.max(0, piled - 1);
            open--;
            join(whole, NOT_LEVEL);
            return true;
        }

        private boolean takesFirst() {
            if (!hasRoom()) {
                return false;
            }
            int node = newNode('\\', 0);
            draft.right[node] = whole;
            whole = node;
            due = FIGURE_DUE;
            return true;
        }

        /** The NAME's own NODE becomes the : or ^ , as both are one NODE together. */
        private boolean takesTarget(int c) {
            if (!isNode(whole) || draft.kind[whole] != NAME || !isFirstOfExpression()) {
                return false;
            }
            draft.kind[whole] = c;
            noteName(draft.targets, draft.number[whole]);
            return piles(whole, TARGET_LEVEL);
        }

        /** Whether no sign between stands ahead of what is whole, in the E that it is in. */
        private boolean isFirstOfExpression() {
            int top = piled - 1;
            return !isBelow(top, pileLevel.length) || pileLevel[top] <= TARGET_LEVEL;
        }

        private boolean takesBetween(int c) {
            int level = levelBetween(c);
            if (level == 0 || !hasRoom()) {
                return false;
            }
            int node = newNode(c, 0);
            join(whole, level);
            draft.left[node] = whole;
            return piles(node, level);
        }

        /** 0, if the sign is none that stands between. */
        private static int levelBetween(int sign) {
            switch (sign) {
                case '&':
                    return 2;
                case '|':
                    return 3;
                case '<':
                case '>':
                case '=':
                    return 4;
                case '~':
                    return 5;
                case '+':
                case '-':
                    return 6;
                case '*':
                    return 7;
                default:
                    return 0;
            }
        }

        /** What waits on top of the pile and holds as tightly as the level gets its right part. */
        private void join(int part, int level) {
            whole = part;
            while (piled > 0 && piled <= pile.length && pileLevel[piled - 1] >= level) {
                piled--;
                int node = pile[piled];
                if (isNode(node)) {
                    draft.right[node] = whole;
                    whole = node;
                }
            }
            due = REST_DUE;
        }

        private boolean piles(int entry, int level) {
            if (!isBelow(piled, pile.length)) {
                return false;
            }
            pile[piled] = entry;
            pileLevel[piled] = level;
            piled++;
            due = UNIT_DUE;
            return true;
        }

        private boolean hasRoom() {
            return isNode(nodeCount);
        }

        private int newNode(int kind, int number) {
            int node = nodeCount;
            if (isNode(node)) {
                draft.kind[node] = kind;
                draft.number[node] = number;
                nodeCount++;
            }
            return node;
        }

        private void noteName(int[] ofEachLine, int name) {
            if (isBelow(draft.lines, ofEachLine.length)) {
                ofEachLine[draft.lines] |= 1 << name;
            }
        }

        private static boolean isFigure(int c) {
            return c >= '0' && c <= '9';
        }
    }

    /**
     * Asks NODES for their RESULTS. No NODE stands in itself, so each needs but one place to go on
     * from, kept in rows by its number.
     */
    private static final class Machine {
        /** Where a NODE is to go on: not asked yet; at its left part; its right part; a range; its end. */
        private static final int NEW = 0, AT_LEFT = 1, AT_RIGHT = 2, IN_RANGE = 3, OVER = 4;
        /** Each round of a pair takes a RESULT of a part or ends one, and WORK bounds both. */
        private static final int MOST_ROUNDS = 2 * MOST_WORK + 2;

        private final State state;
        private final int[] values = new int[NAMES];
        private final int[] stage = new int[MOST_NODES];
        /** The left RESULT of a pair. */
        private final int[] leftResult = new int[MOST_NODES];
        /** The last of a range. */
        private final int[] rangeEnd = new int[MOST_NODES];
        /** Where a range is; how many came through a \ ; what a ^ gives back. */
        private final int[] kept = new int[MOST_NODES];
        /** What the NODE that YIELDED last did YIELD. */
        int result;
        int work;
        boolean cut;

        Machine(State state) {
            this.state = state;
        }

        void beginRun() {
            System.arraycopy(state.values, 0, values, 0, NAMES);
        }

        void beginLine(int root) {
            work = 0;
            cut = false;
            renew(root);
        }

        void copyValuesTo(int[] ends) {
            System.arraycopy(values, 0, ends, 0, Math.min(NAMES, ends.length));
        }

        /**
         * Whether the NODE YIELDS one more RESULT. Behind a cut none is asked, so that nothing goes
         * on and no ^ gives back.
         */
        private boolean ask(int node, int depth) {
            if (cut || depth > MOST_NODES || !isNode(node)) {
                return false;
            }
            switch (state.kind[node]) {
                case NUMBER:
                case NAME:
                    return askLeaf(node);
                case '|':
                    return askEither(node, depth);
                case '\\':
                    return askFirst(node, depth);
                case '!':
                    return askWhetherNone(node, depth);
                case ':':
                case '^':
                    return askTarget(node, depth);
                default:
                    return askPair(node, depth);
            }
        }

        private boolean yields(int number) {
            if (work >= MOST_WORK) {
                cut = true;
                return false;
            }
            work++;
            result = number;
            return true;
        }

        private void renew(int node) {
            if (isNode(node)) {
                stage[node] = NEW;
            }
        }

        private boolean askLeaf(int node) {
            if (stage[node] != NEW) {
                return false;
            }
            stage[node] = OVER;
            int number = state.number[node];
            if (state.kind[node] == NUMBER) {
                return yields(number);
            }
            return isName(number) && yields(values[number]);
        }

        private boolean askEither(int node, int depth) {
            if (stage[node] == NEW) {
                stage[node] = AT_LEFT;
                renew(state.left[node]);
            }
            if (stage[node] == AT_LEFT) {
                if (ask(state.left[node], depth + 1)) {
                    return yields(result);
                }
                stage[node] = AT_RIGHT;
                renew(state.right[node]);
            }
            return ask(state.right[node], depth + 1) && yields(result);
        }

        private boolean askFirst(int node, int depth) {
            if (stage[node] == NEW) {
                stage[node] = AT_RIGHT;
                kept[node] = 0;
                renew(state.right[node]);
            }
            if (kept[node] >= state.number[node] || !ask(state.right[node], depth + 1)) {
                return false;
            }
            kept[node]++;
            return yields(result);
        }

        private boolean askWhetherNone(int node, int depth) {
            if (stage[node] != NEW) {
                return false;
            }
            stage[node] = OVER;
            renew(state.right[node]);
            return !ask(state.right[node], depth + 1) && yields(0);
        }

        private boolean askTarget(int node, int depth) {
            int name = state.number[node];
            if (!isName(name)) {
                return false;
            }
            if (stage[node] == NEW) {
                renew(state.right[node]);
            } else if (state.kind[node] == '^') {
                values[name] = kept[node];
            }
            stage[node] = AT_RIGHT;
            if (!ask(state.right[node], depth + 1)) {
                return false;
            }
            kept[node] = values[name];
            values[name] = result;
            return yields(result);
        }

        private boolean askPair(int node, int depth) {
            if (stage[node] == NEW) {
                stage[node] = AT_LEFT;
                renew(state.left[node]);
            }
            if (stage[node] == IN_RANGE) {
                if (kept[node] < rangeEnd[node]) {
                    kept[node]++;
                    return yields(kept[node]);
                }
                stage[node] = AT_RIGHT;
            }
            for (int round = 0; round < MOST_ROUNDS; round++) {
                if (stage[node] == AT_LEFT) {
                    if (!ask(state.left[node], depth + 1)) {
                        return false;
                    }
                    leftResult[node] = result;
                    stage[node] = AT_RIGHT;
                    renew(state.right[node]);
                }
                if (!ask(state.right[node], depth + 1)) {
                    stage[node] = AT_LEFT;
                } else if (hasResult(node, leftResult[node], result)) {
                    return yieldsOfPair(node, leftResult[node], result);
                }
            }
            return false;
        }

        private boolean hasResult(int node, int x, int y) {
            switch (state.kind[node]) {
                case '~':
                    return x <= y;
                case '<':
                    return x < y;
                case '>':
                    return x > y;
                case '=':
                    return x == y;
                default:
                    return isNumber(reckoned(state.kind[node], x, y));
            }
        }

        private boolean yieldsOfPair(int node, int x, int y) {
            if (state.kind[node] == '~') {
                stage[node] = IN_RANGE;
                kept[node] = x;
                rangeEnd[node] = y;
                return yields(x);
            }
            return yields((int) reckoned(state.kind[node], x, y));
        }

        /** What a pair makes of both; y itself, where the left one only decides whether there is one. */
        private static long reckoned(int kind, long x, long y) {
            switch (kind) {
                case '+':
                    return x + y;
                case '-':
                    return x - y;
                case '*':
                    return x * y;
                default:
                    return y;
            }
        }
    }

    /** What a RUN SAID and how it ended. */
    private static final class Outcome {
        boolean isMade;
        private final int[] said = new int[MOST_LINES * MOST_SAID];
        int saidCount;
        final int[] lineSaid = new int[MOST_LINES];
        final int[] lineWork = new int[MOST_LINES];
        final int[] lineCut = new int[MOST_LINES];
        final int[] lineLast = new int[MOST_LINES];
        final int[] ends = new int[NAMES];

        /** A RUN depends on the STATE alone, so one is made anew only behind a change. */
        void make(Machine machine, State state) {
            if (isMade) {
                return;
            }
            saidCount = 0;
            machine.beginRun();
            for (int k = 0; k < state.lines && k < MOST_LINES; k++) {
                makeLine(k, machine, state);
            }
            machine.copyValuesTo(ends);
            isMade = true;
        }

        private void makeLine(int k, Machine machine, State state) {
            int root = state.root[k];
            int most = state.every[k] == 1 ? MOST_SAID : 1;
            lineSaid[k] = 0;
            lineLast[k] = NONE;
            machine.beginLine(root);
            for (int n = 0; n < most && machine.ask(root, 0); n++) {
                say(machine.result);
                lineSaid[k] = n + 1;
                lineLast[k] = machine.result;
            }
            lineWork[k] = machine.work;
            lineCut[k] = machine.cut ? 1 : 0;
        }

        private void say(int number) {
            if (isBelow(saidCount, said.length)) {
                said[saidCount] = number;
                saidCount++;
            }
        }

        int saidAt(int i) {
            return isBelow(i, saidCount) && i < said.length ? said[i] : NONE;
        }

        int silentLines(int lines) {
            int silent = 0;
            for (int k = 0; k < lines && k < MOST_LINES; k++) {
                if (lineSaid[k] == 0) {
                    silent++;
                }
            }
            return silent;
        }
    }
}
