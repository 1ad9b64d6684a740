import java.util.ArrayDeque;
import java.util.ArrayList;
import java.util.Arrays;
import java.util.Deque;
import java.util.List;
import java.util.function.IntPredicate;

/**
 * The document once more, written as differently from the class as can be, to be compared with it:
 * texts are read by descent, rule by rule; results are pushed to whoever asked for them, who says
 * whether to go on; nothing is kept from one call to the next but what the document names.
 */
final class Model {
    static final int NONE = -1999999, BAD = -2000000, NO = -2000001, FULL = -2000002;

    private final StringBuilder text = new StringBuilder();
    private List<Line> lines = new ArrayList<>();
    private int[] values = new int[4];
    private final Deque<Snapshot> states = new ArrayDeque<>();
    private final int[] refused = new int[3];

    private record Snapshot(List<Line> lines, int[] values) { }

    private record Line(Node root, boolean every) { }

    /** sign: 'n' a NUMBER, 'v' a NAME, else the node's own; x is a number, a name's place or a figure. */
    private record Node(char sign, int x, Node a, Node b) {
        int count() {
            return 1 + (a == null ? 0 : a.count()) + (b == null ? 0 : b.count());
        }

        int names() {
            return (sign == 'v' ? 1 << x : 0) | targets()
                    | (a == null ? 0 : a.names()) | (b == null ? 0 : b.names());
        }

        int targets() {
            return (sign == ':' || sign == '^' ? 1 << x : 0)
                    | (a == null ? 0 : a.targets()) | (b == null ? 0 : b.targets());
        }
    }

    // ---- the calls

    int type(int c) {
        if (c < 0 || c > 127) {
            return refuse(BAD);
        }
        if (text.length() == 150) {
            return refuse(FULL);
        }
        text.append((char) c);
        return text.length();
    }

    int clear() {
        int had = text.length();
        text.setLength(0);
        return had;
    }

    int reads() {
        try {
            List<Line> read = new Descent(text.toString()).program();
            leave();
            lines = read;
            return lines.size();
        } catch (Fault fault) {
            return -10 - fault.place;
        }
    }

    int value(int x, int v) {
        if (x < 0 || x > 3 || v < -999999 || v > 999999) {
            return refuse(BAD);
        }
        leave();
        int was = values[x];
        values = values.clone();
        values[x] = v;
        return was;
    }

    int drops(int k) {
        if (noLine(k)) {
            return refuse(BAD);
        }
        leave();
        lines = new ArrayList<>(lines);
        lines.remove(k);
        return lines.size();
    }

    int line(int k, int what) {
        if (noLine(k) || what < 0 || what > 3) {
            return refuse(BAD);
        }
        Line line = lines.get(k);
        return switch (what) {
            case 0 -> line.every ? 1 : 0;
            case 1 -> line.root.count();
            case 2 -> line.root.names();
            default -> line.root.targets();
        };
    }

    int run(int what) {
        if (what < 0 || what > 3) {
            return refuse(BAD);
        }
        int sum = 0;
        for (Done done : new Run().all()) {
            sum += switch (what) {
                case 0 -> done.said.size();
                case 1 -> done.said.isEmpty() ? 1 : 0;
                case 2 -> done.cut ? 1 : 0;
                default -> done.work;
            };
        }
        return sum;
    }

    int said(int i) {
        if (i < 0) {
            return refuse(BAD);
        }
        List<Integer> all = allSaid();
        return i < all.size() ? all.get(i) : NONE;
    }

    int did(int k, int what) {
        if (noLine(k) || what < 0 || what > 3) {
            return refuse(BAD);
        }
        Done done = new Run().all().get(k);
        return switch (what) {
            case 0 -> done.said.size();
            case 1 -> done.work;
            case 2 -> done.cut ? 1 : 0;
            default -> done.said.isEmpty() ? NONE : done.said.get(done.said.size() - 1);
        };
    }

    int ends(int x) {
        if (x < 0 || x > 3) {
            return refuse(BAD);
        }
        Run run = new Run();
        run.all();
        return run.now[x];
    }

    int alone(int k, int i) {
        if (noLine(k) || i < 0) {
            return refuse(BAD);
        }
        List<Integer> said = new Run().one(lines.get(k).root, 30).said;
        return i < said.size() ? said.get(i) : NONE;
    }

    int back() {
        if (states.isEmpty()) {
            return refuse(NO);
        }
        Snapshot last = states.removeLast();
        lines = last.lines;
        values = last.values;
        return states.size();
    }

    int told(int what) {
        return switch (what) {
            case 0, 1, 2 -> refused[what];
            case 3 -> text.length();
            case 4 -> lines.size();
            case 5 -> lines.stream().mapToInt(line -> line.root.count()).sum();
            case 6 -> states.size();
            default -> refuse(BAD);
        };
    }

    long digest() {
        List<Integer> row = new ArrayList<>();
        for (int what = 0; what < 7; what++) {
            row.add(told(what));
        }
        Arrays.stream(values).forEach(row::add);
        for (int k = 0; k < lines.size(); k++) {
            for (int what = 0; what < 4; what++) {
                row.add(line(k, what));
            }
            for (int what = 0; what < 4; what++) {
                row.add(did(k, what));
            }
        }
        for (int what = 0; what < 4; what++) {
            row.add(run(what));
        }
        row.addAll(allSaid());
        for (int x = 0; x < 4; x++) {
            row.add(ends(x));
        }
        long h = 2467;
        for (int v : row) {
            h = 31 * h + v;
        }
        return h;
    }

    private List<Integer> allSaid() {
        List<Integer> all = new ArrayList<>();
        for (Done done : new Run().all()) {
            all.addAll(done.said);
        }
        return all;
    }

    private boolean noLine(int k) {
        return k < 0 || k >= lines.size();
    }

    private int refuse(int how) {
        refused[BAD - how]++;
        return how;
    }

    private void leave() {
        states.addLast(new Snapshot(lines, values));
        if (states.size() > 5) {
            states.removeFirst();
        }
    }

    // ---- a run

    private static final class Cut extends RuntimeException {
        private static final long serialVersionUID = 1;

        Cut() {
            super(null, null, false, false);
        }
    }

    private static final class Done {
        final List<Integer> said = new ArrayList<>();
        int work;
        boolean cut;
    }

    private final class Run {
        final int[] now = values.clone();
        private Done done;

        List<Done> all() {
            List<Done> all = new ArrayList<>();
            for (Line line : lines) {
                all.add(one(line.root, line.every ? 30 : 1));
            }
            return all;
        }

        Done one(Node root, int most) {
            done = new Done();
            try {
                push(root, r -> {
                    done.said.add(r);
                    return done.said.size() < most;
                });
            } catch (Cut cut) {
                done.cut = true;
            }
            return done;
        }

        /** Hands a RESULT on, as one YIELDED; answers whether another is asked for. */
        private boolean handOn(int r, IntPredicate asker) {
            if (done.work == 1000) {
                throw new Cut();
            }
            done.work++;
            return asker.test(r);
        }

        /** Pushes all RESULTS while they are asked for; answers whether more would be asked for. */
        private boolean push(Node n, IntPredicate asker) {
            switch (n.sign) {
                case 'n':
                    return handOn(n.x, asker);
                case 'v':
                    return handOn(now[n.x], asker);
                case '|':
                    return push(n.a, r -> handOn(r, asker)) && push(n.b, r -> handOn(r, asker));
                case '!':
                    boolean none = push(n.a, r -> false);
                    return !none || handOn(0, asker);
                case '\\':
                    return n.x == 0 || pushFirst(n, asker);
                case ':':
                    return push(n.a, r -> {
                        now[n.x] = r;
                        return handOn(r, asker);
                    });
                case '^':
                    return push(n.a, r -> {
                        int was = now[n.x];
                        now[n.x] = r;
                        boolean more = handOn(r, asker);
                        if (more) {
                            now[n.x] = was;
                        }
                        return more;
                    });
                default:
                    return push(n.a, x -> push(n.b, y -> pair(n.sign, x, y, asker)));
            }
        }

        private boolean pushFirst(Node n, IntPredicate asker) {
            int[] left = {n.x};
            boolean[] more = {true};
            push(n.a, r -> {
                left[0]--;
                more[0] = handOn(r, asker);
                return more[0] && left[0] > 0;
            });
            return more[0];
        }

        private boolean pair(char sign, int x, int y, IntPredicate asker) {
            switch (sign) {
                case '~':
                    for (int r = x; r <= y; r++) {
                        if (!handOn(r, asker)) {
                            return false;
                        }
                    }
                    return true;
                case '&':
                    return handOn(y, asker);
                case '<':
                    return x >= y || handOn(y, asker);
                case '>':
                    return x <= y || handOn(y, asker);
                case '=':
                    return x != y || handOn(y, asker);
                default:
                    long r = sign == '+' ? (long) x + y : sign == '-' ? (long) x - y : (long) x * y;
                    return Math.abs(r) > 999999 || handOn((int) r, asker);
            }
        }
    }

    // ---- a text

    private static final class Fault extends Exception {
        private static final long serialVersionUID = 1;
        final int place;

        Fault(int place) {
            super(null, null, false, false);
            this.place = place;
        }
    }

    private static final class Descent {
        private static final String[] BETWEEN = {"&", "|", "<>=", "~", "+-", "*"};
        private final String text;
        private int at;
        private int nodes;
        private int open;

        Descent(String text) {
            this.text = text;
        }

        List<Line> program() throws Fault {
            List<Line> lines = new ArrayList<>();
            while (peek() != -1) {
                if (lines.size() == 8) {
                    throw new Fault(at);
                }
                boolean every = has("*");
                lines.add(new Line(e(), every));
                need(";");
            }
            return lines;
        }

        private Node e() throws Fault {
            Node and = between(0);
            if (and.sign == 'v' && (peek() == ':' || peek() == '^')) {
                char sign = text.charAt(at);
                at++;
                return new Node(sign, and.x, e(), null);
            }
            return and;
        }

        private Node between(int level) throws Fault {
            if (level == BETWEEN.length) {
                return last();
            }
            Node all = between(level + 1);
            while (peek() != -1 && BETWEEN[level].indexOf(peek()) >= 0) {
                char sign = text.charAt(at);
                countNode();
                at++;
                all = new Node(sign, 0, all, between(level + 1));
            }
            return all;
        }

        private Node last() throws Fault {
            Node all = unit();
            while (peek() == '\\') {
                countNode();
                at++;
                int c = peek();
                if (c < '0' || c > '9') {
                    throw new Fault(at);
                }
                at++;
                all = new Node('\\', c - '0', all, null);
            }
            return all;
        }

        private Node unit() throws Fault {
            int c = peek();
            if (c >= '0' && c <= '9') {
                countNode();
                return new Node('n', number(), null, null);
            }
            if (c >= 'a' && c <= 'd') {
                countNode();
                at++;
                return new Node('v', c - 'a', null, null);
            }
            if (c == '!') {
                countNode();
                at++;
                return new Node('!', 0, unit(), null);
            }
            if (c == '(' && open < 9) {
                at++;
                open++;
                Node inside = e();
                need(")");
                open--;
                return inside;
            }
            throw new Fault(at);
        }

        private int number() throws Fault {
            int from = at;
            while (at < text.length() && Character.isDigit(text.charAt(at))) {
                if (at - from == 3) {
                    throw new Fault(at);
                }
                at++;
            }
            return Integer.parseInt(text.substring(from, at));
        }

        private void countNode() throws Fault {
            nodes++;
            if (nodes > 60) {
                throw new Fault(at);
            }
        }

        /** The next byte that is no blank, and the place goes there; -1 at the end. */
        private int peek() {
            while (at < text.length() && text.charAt(at) == ' ') {
                at++;
            }
            return at < text.length() ? text.charAt(at) : -1;
        }

        private boolean has(String sign) {
            if (peek() != sign.charAt(0)) {
                return false;
            }
            at++;
            return true;
        }

        private void need(String sign) throws Fault {
            if (!has(sign)) {
                throw new Fault(at);
            }
        }
    }
}
