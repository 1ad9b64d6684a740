import java.util.Random;

/** Long runs of calls, told by fixed seeds, each answered by the class as by the model. */
public final class ModelTest {
    private static final int RUNS = 6000;
    private static final int MOST_CALLS = 512;
    private static final String SIGNS = "0123456789abcd()!\\:^&|<>=~+-*; ";

    private final Random random;
    private final YieldLines object = new YieldLines();
    private final Model model = new Model();
    private final StringBuilder calls = new StringBuilder();
    private int callCount;

    private ModelTest(long seed) {
        random = new Random(seed);
        calls.append("seed ").append(seed).append(':');
    }

    public static void main(String[] args) {
        int runs = args.length > 0 ? Integer.parseInt(args[0]) : RUNS;
        for (int seed = 0; seed < runs && !Check.anyWrong(); seed++) {
            new ModelTest(seed).go();
        }
        Check.end();
    }

    private void go() {
        while (callCount < MOST_CALLS && !Check.anyWrong()) {
            switch (random.nextInt(10)) {
                case 0, 1, 2 -> typeAndRead();
                case 3, 4 -> change();
                default -> ask();
            }
        }
    }

    private void due(String call, long got, long want) {
        callCount++;
        calls.append(' ').append(call);
        Check.due(got == want ? call : calls.toString(), got, want);
    }

    private void typeAndRead() {
        due("clear()", object.clear(), model.clear());
        String text = random.nextInt(8) == 0 ? noise() : program();
        if (random.nextInt(4) == 0) {
            text = spoiled(text);
        }
        for (int i = 0; i < text.length() && callCount < MOST_CALLS; i++) {
            type(text.charAt(i));
        }
        due("reads()", object.reads(), model.reads());
        if (random.nextBoolean()) {
            due("digest()", object.digest(), model.digest());
        }
    }

    private void type(int c) {
        due("type(" + c + ")", object.type(c), model.type(c));
    }

    private void change() {
        switch (random.nextInt(5)) {
            case 0, 1 -> {
                int x = near(4);
                int v = random.nextInt(4) == 0 ? edge() : random.nextInt(21) - 5;
                due("value(" + x + "," + v + ")", object.value(x, v), model.value(x, v));
            }
            case 2 -> {
                int k = near(model.told(4));
                due("drops(" + k + ")", object.drops(k), model.drops(k));
            }
            case 3 -> due("back()", object.back(), model.back());
            default -> type(random.nextInt(5) == 0 ? edge() : SIGNS.charAt(random.nextInt(SIGNS.length())));
        }
    }

    private void ask() {
        int k = near(model.told(4));
        int what = near(4);
        int i = near(random.nextBoolean() ? 32 : 8);
        switch (random.nextInt(9)) {
            case 0 -> due("line(" + k + "," + what + ")", object.line(k, what), model.line(k, what));
            case 1 -> due("run(" + what + ")", object.run(what), model.run(what));
            case 2 -> due("said(" + i + ")", object.said(i), model.said(i));
            case 3 -> due("did(" + k + "," + what + ")", object.did(k, what), model.did(k, what));
            case 4 -> due("ends(" + what + ")", object.ends(what), model.ends(what));
            case 5 -> due("alone(" + k + "," + i + ")", object.alone(k, i), model.alone(k, i));
            case 6 -> {
                int all = near(7);
                due("told(" + all + ")", object.told(all), model.told(all));
            }
            case 7 -> due("reads()", object.reads(), model.reads());
            default -> due("digest()", object.digest(), model.digest());
        }
    }

    private int near(int bound) {
        return random.nextInt(40) == 0 ? edge() : random.nextInt(bound + 2) - (random.nextInt(8) == 0 ? 1 : 0);
    }

    private int edge() {
        int[] edges = {-1, 127, 128, 999999, 1000000, -999999, -1000000, Integer.MAX_VALUE, Integer.MIN_VALUE};
        return edges[random.nextInt(edges.length)];
    }

    // ---- texts

    private String program() {
        StringBuilder text = new StringBuilder();
        int most = 1 + random.nextInt(random.nextInt(5) == 0 ? 9 : 4);
        int deep = 1 + random.nextInt(5);
        for (int n = 0; n < most; n++) {
            text.append(random.nextInt(3) > 0 ? "*" : "");
            expression(text, deep);
            text.append(';');
            blank(text);
        }
        return text.toString();
    }

    private void expression(StringBuilder text, int deep) {
        if (random.nextInt(4) == 0) {
            String name = String.valueOf((char) ('a' + random.nextInt(4)));
            text.append(random.nextInt(6) == 0 ? "(" + name + ")" : name);
            blank(text);
            text.append(random.nextBoolean() ? ':' : '^');
            expression(text, deep - 1);
            return;
        }
        int parts = deep <= 0 ? 1 : 1 + random.nextInt(3);
        for (int n = 0; n < parts; n++) {
            if (n > 0) {
                text.append("&&||~~+-*<>=".charAt(random.nextInt(12)));
            }
            unit(text, deep);
            while (random.nextInt(9) == 0) {
                text.append('\\').append(random.nextInt(random.nextInt(3) == 0 ? 10 : 4));
            }
            blank(text);
        }
    }

    private void unit(StringBuilder text, int deep) {
        int kind = random.nextInt(12);
        if (kind == 0) {
            text.append('!');
            unit(text, deep - 1);
        } else if (kind < 5 && deep > 0) {
            text.append('(');
            expression(text, deep - 1);
            text.append(')');
        } else if (kind < 8) {
            text.append((char) ('a' + random.nextInt(4)));
        } else {
            text.append(random.nextInt(random.nextInt(6) == 0 ? 1000 : 7));
        }
    }

    private void blank(StringBuilder text) {
        if (random.nextInt(30) == 0) {
            text.append(' ');
        }
    }

    private String spoiled(String text) {
        StringBuilder spoiled = new StringBuilder(text);
        for (int n = random.nextInt(3); n >= 0 && spoiled.length() > 0; n--) {
            int at = random.nextInt(spoiled.length());
            char sign = SIGNS.charAt(random.nextInt(SIGNS.length()));
            switch (random.nextInt(3)) {
                case 0 -> spoiled.setCharAt(at, sign);
                case 1 -> spoiled.insert(at, sign);
                default -> spoiled.deleteCharAt(at);
            }
        }
        return spoiled.toString();
    }

    private String noise() {
        StringBuilder text = new StringBuilder();
        String few = random.nextBoolean() ? SIGNS : "a1!(\\:;";
        for (int n = random.nextInt(60); n > 0; n--) {
            text.append(few.charAt(random.nextInt(few.length())));
        }
        return text.toString();
    }
}
