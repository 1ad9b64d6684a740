import java.math.BigInteger;
import java.util.ArrayList;
import java.util.List;

/** The edges that the promises 1 to 15 name, sentence by sentence. */
public final class EdgesOfCallsTest extends Telling {
    private EdgesOfCallsTest() {
    }

    public static void main(String[] args) {
        constants();
        newObject();
        mostCalls();
        laterCalls();
        type();
        typeRefuses();
        clear();
        reads();
        readsAFault();
        value();
        valueRefuses();
        drops();
        dropsRefuses();
        line();
        lineRefuses();
        run();
        runRefuses();
        said();
        saidRefuses();
        did();
        didRefuses();
        ends();
        alone();
        aloneHasNone();
        aloneRefuses();
        back();
        backRefuses();
        told();
        toldRefuses();
        digest();
        digestOfAll();
        Check.end();
    }

    private static void constants() {
        Check.sentence("public static final int NONE = -1999999, BAD = -2000000, NO = -2000001, FULL = -2000002;");
        Check.due("NONE", YieldLines.NONE, -1999999);
        Check.due("BAD", YieldLines.BAD, -2000000);
        Check.due("NO", YieldLines.NO, -2000001);
        Check.due("FULL", YieldLines.FULL, -2000002);
    }

    private static void newObject() {
        Check.sentence("`YieldLines()`: As told; no LINES.");
        YieldLines y = new YieldLines();
        for (int what = 0; what < 7; what++) {
            Check.due("told(" + what + ")", y.told(what), 0);
        }
        for (int what = 0; what < 4; what++) {
            Check.due("run(" + what + ")", y.run(what), 0);
        }
        Check.same("values at the end", allEnds(y), "0 0 0 0");
        Check.due("said", y.said(0), NONE);
        Check.due("no line", y.line(0, 0), BAD);
        Check.due("no line to do", y.did(0, 0), BAD);
        Check.due("no line alone", y.alone(0, 0), BAD);
        Check.due("no line to drop", y.drops(0), BAD);
        Check.due("no state", y.back(), NO);
        Check.due("an empty text", y.clear(), 0);
        Check.due("no lines in it", y.reads(), 0);
        for (int x = 0; x < 4; x++) {
            Check.due("value of " + x, y.value(x, 1), 0);
        }
        Check.same("another new one is new", allEnds(new YieldLines()), "0 0 0 0");
    }

    private static void mostCalls() {
        Check.sentence("An object is used for at most 512 calls after it has been made;");
        YieldLines bad = new YieldLines();
        YieldLines back = new YieldLines();
        YieldLines full = new YieldLines();
        YieldLines states = new YieldLines();
        for (int n = 1; n <= 511; n++) {
            bad.run(-1);
            back.back();
            full.type(' ');
            states.value(0, n);
        }
        Check.due("the 512th behind as many BAD", bad.told(0), 511);
        Check.due("the 512th behind as many NO", back.told(1), 511);
        Check.due("the 512th behind as many bytes", full.told(2), 511 - 150);
        Check.due("the 512th behind as many values", states.value(0, 0), 511);
    }

    /** Their answers are free, but LANGUAGE.md has each call end without a throw, in any state. */
    private static void laterCalls() {
        Check.sentence("what later calls answer is free.");
        int[] given = {Integer.MIN_VALUE, -1, 0, 1, 3, 4, 7, 8, 30, 59, 97, 999999, Integer.MAX_VALUE};
        String text = "*(a:1~9)*(b^a|2);!d;";
        YieldLines y = new YieldLines();
        int ended = 0;
        for (int n = 0; n < 20000; n++) {
            if (n % 97 == 0) {
                read(y, text);
            }
            anyCall(y, n % 14, given[n % 13], given[n / 13 % 13]);
            ended++;
        }
        Check.due("calls that ended", ended, 20000);
    }

    private static long anyCall(YieldLines y, int which, int first, int second) {
        return switch (which) {
            case 0 -> y.type(first);
            case 1 -> y.clear();
            case 2 -> y.reads();
            case 3 -> y.value(first, second);
            case 4 -> y.drops(first);
            case 5 -> y.line(first, second);
            case 6 -> y.run(first);
            case 7 -> y.said(first);
            case 8 -> y.did(first, second);
            case 9 -> y.ends(first);
            case 10 -> y.alone(first, second);
            case 11 -> y.back();
            case 12 -> y.told(first);
            default -> y.digest();
        };
    }

    private static void type() {
        Check.sentence("A byte (0 .. 127) comes behind THE TEXT: how many it has.");
        YieldLines y = new YieldLines();
        Check.due("type(0)", y.type(0), 1);
        Check.due("type(127)", y.type(127), 2);
        for (int n = 3; n <= 150; n++) {
            Check.due("type a " + n + "th", y.type(n % 128), n);
        }
        for (int c = 0; c < 128; c++) {
            Check.due("type(" + c + ") first", new YieldLines().type(c), 1);
        }
        YieldLines order = of("1;");
        order.type('2');
        order.type(';');
        order.reads();
        Check.same("behind what is there", allSaid(order), "1 2");
    }

    private static void typeRefuses() {
        Check.sentence("BAD; FULL: 150.");
        YieldLines y = new YieldLines();
        for (int c : new int[] {-1, 128, 255, 256, Integer.MIN_VALUE, Integer.MAX_VALUE}) {
            Check.due("type(" + c + ")", y.type(c), BAD);
        }
        Check.due("nothing came", y.told(3), 0);
        for (int n = 1; n <= 149; n++) {
            y.type(' ');
        }
        Check.due("the 150th", y.type(' '), 150);
        Check.due("the 151st", y.type(' '), FULL);
        Check.due("the 152nd", y.type(' '), FULL);
        Check.due("BAD first", y.type(128), BAD);
        Check.due("bytes", y.told(3), 150);
        Check.due("how often FULL", y.told(2), 2);
        Check.due("reads them all", y.reads(), 0);
    }

    private static void clear() {
        Check.sentence("THE TEXT is empty: how many it had.");
        YieldLines y = new YieldLines();
        Check.due("an empty one", y.clear(), 0);
        y.type('1');
        Check.due("one byte", y.clear(), 1);
        Check.due("again", y.clear(), 0);
        Check.due("bytes", y.told(3), 0);
        for (int n = 1; n <= 152; n++) {
            y.type('1');
        }
        Check.due("a full one", y.clear(), 150);
        Check.due("has room again", y.type('7'), 1);
        y.type(';');
        Check.due("nothing is left of it", y.reads(), 1);
        y.clear();
        Check.due("the program stays", y.said(0), 7);
        Check.due("no state by it", y.told(6), 1);
    }

    private static void reads() {
        Check.sentence("THE PROGRAM is read (THE TEXT stays): how many LINES. S.");
        YieldLines y = new YieldLines();
        Check.due("none", y.reads(), 0);
        Check.due("S", y.told(6), 1);
        Check.due("eight", read(y, times("1;", 8)), 8);
        Check.due("the text stays", y.told(3), 16);
        Check.due("read again", y.reads(), 8);
        Check.due("S", y.told(6), 3);
        Check.due("fewer", read(y, "2;"), 1);
        Check.due("those before are gone", y.told(4), 1);
        Check.due("and their nodes", y.told(5), 1);
        Check.due("and what they said", y.run(0), 1);
        Check.due("no line behind it", y.line(1, 0), BAD);
        y.value(0, 6);
        read(y, "a;");
        Check.due("values stay", y.said(0), 6);
        // Nothing of a RUN that stopped on its way goes on in what is read then.
        YieldLines stopped = of("*(1~9)\\2;");
        Check.same("the first", allSaid(stopped), "1 2");
        read(stopped, "*1+(5|6);");
        Check.same("another", allSaid(stopped), "6 7");
    }

    private static void readsAFault() {
        Check.sentence("-10 less the FAULT: all stays.");
        YieldLines y = with("1;2;", 3);
        Check.due("at 0", read(y, ";"), -10);
        Check.due("at 1", read(y, "1"), -11);
        Check.due("at 150", read(y, times(" ", 149) + "1"), -160);
        Check.due("the text stays", y.told(3), 150);
        Check.due("again", y.reads(), -160);
        Check.same("the program stays", allSaid(y), "1 2");
        Check.due("lines", y.told(4), 2);
        Check.due("nodes", y.told(5), 2);
        Check.due("states", y.told(6), 2);
        Check.due("values", y.ends(0), 3);
        Check.due("good lines ahead of the fault do not count", read(y, "7;8;9;)"), -16);
        Check.due("lines", y.told(4), 2);
        Check.due("back is behind what stood", y.back(), 1);
        Check.due("value", y.ends(0), 0);
    }

    private static void value() {
        Check.sentence("The VALUE of a NAME to begin with becomes v (-999999 .. 999999): what it was. S.");
        for (int x = 0; x < 4; x++) {
            YieldLines y = of("");
            Check.due("0 at first", y.value(x, 999999), 0);
            Check.due("the greatest", y.value(x, -999999), 999999);
            Check.due("the least", y.value(x, 0), -999999);
            Check.due("0", y.value(x, 0), 0);
            Check.due("S", y.told(6), 5);
            y.value(x, 5);
            for (int other = 0; other < 4; other++) {
                Check.due("ends(" + other + ")", y.ends(other), other == x ? 5 : 0);
            }
        }
        YieldLines y = of("a:9;");
        y.run(0);
        Check.due("a run is not told to begin with", y.value(0, 1), 0);
    }

    private static void valueRefuses() {
        Check.sentence("what it was. S. BAD.");
        YieldLines y = with("", 7, 7, 7, 7);
        int[][] wrong = {{-1, 0}, {4, 0}, {0, 1000000}, {0, -1000000}, {3, 1000000}, {3, -1000000}, {-1, 1000000},
            {Integer.MIN_VALUE, 0}, {Integer.MAX_VALUE, 0}, {0, Integer.MIN_VALUE}, {0, Integer.MAX_VALUE}};
        for (int[] call : wrong) {
            Check.due("value(" + call[0] + ", " + call[1] + ")", y.value(call[0], call[1]), BAD);
        }
        Check.due("how often", y.told(0), wrong.length);
        Check.same("values", allEnds(y), "7 7 7 7");
    }

    private static void drops() {
        Check.sentence("A LINE goes (those behind it are one nearer): how many are left. S.");
        YieldLines eight = of("1;2;3;4;5;6;7;*d:8;");
        Check.due("the first of eight", eight.drops(0), 7);
        Check.same("said", allSaid(eight), "2 3 4 5 6 7 8");
        int[] last = {1, 2, 8, 8};
        for (int what = 0; what < 4; what++) {
            Check.due("line(6, " + what + ")", eight.line(6, what), last[what]);
        }
        YieldLines y = of("1;*2|a;b:3;*c^4;5;6;7;8;");
        Check.due("the last of eight", y.drops(7), 7);
        Check.same("said", allSaid(y), "1 2 0 3 4 5 6 7");
        Check.due("the first", y.drops(0), 6);
        Check.same("said", allSaid(y), "2 0 3 4 5 6 7");
        Check.due("one between", y.drops(1), 5);
        Check.same("said", allSaid(y), "2 0 4 5 6 7");
        int[] nearer = {1, 2, 4, 4};
        for (int what = 0; what < 4; what++) {
            Check.due("line(1, " + what + ")", y.line(1, what), nearer[what]);
        }
        Check.due("nodes", y.told(5), 3 + 2 + 3);
        Check.due("S", y.told(6), 4);
        for (int left = 4; left >= 0; left--) {
            Check.due("the first", y.drops(0), left);
        }
        Check.due("nothing is said", y.run(0), 0);
        Check.due("no nodes", y.told(5), 0);
        Check.due("S", y.told(6), 5);
        Check.due("the text stays", y.told(3), 24);
    }

    private static void dropsRefuses() {
        Check.sentence("how many are left. S. BAD.");
        YieldLines y = of("1;2;");
        for (int k : new int[] {-1, 2, 7, 8, Integer.MIN_VALUE, Integer.MAX_VALUE}) {
            Check.due("drops(" + k + ")", y.drops(k), BAD);
        }
        Check.due("lines", y.told(4), 2);
        y.drops(1);
        Check.due("the last is not there twice", y.drops(1), BAD);
        y.drops(0);
        Check.due("of no lines none goes", y.drops(0), BAD);
        Check.due("how often", y.told(0), 8);
    }

    private static void line() {
        Check.sentence("Of a LINE: EVERY (what 0: 1, 0), NODES (1), NAMES in it (2, bits; those ahead of : or ^, too), "
                + "NAMES ahead of : or ^ (3, bits).");
        YieldLines y = of("7;*a;d;a:1;d^1;(b):c;*a|b|c|d;a:b^c:d^1;");
        int[][] want = {{0, 1, 0, 0}, {1, 1, 1, 0}, {0, 1, 8, 0}, {0, 2, 1, 1}, {0, 2, 8, 8}, {0, 2, 6, 2},
            {1, 7, 15, 0}, {0, 5, 15, 15}};
        for (int k = 0; k < want.length; k++) {
            for (int what = 0; what < 4; what++) {
                Check.due("line(" + k + ", " + what + ")", y.line(k, what), want[k][what]);
            }
        }
        YieldLines same = of("(a:a)+a;!b&!(b^2)\\3;");
        Check.due("the same name", same.line(0, 2), 1);
        Check.due("the same name ahead of :", same.line(0, 3), 1);
        Check.due("nodes", same.line(1, 1), 7);
        Check.due("most nodes", of(times("!", 59) + "d;").line(0, 1), 60);
    }

    private static void lineRefuses() {
        Check.sentence("NAMES ahead of : or ^ (3, bits). BAD.");
        YieldLines y = of("1;2;");
        int[][] wrong = {{-1, 0}, {2, 0}, {8, 0}, {0, -1}, {0, 4}, {1, 4}, {2, 4}, {Integer.MIN_VALUE, 0},
            {Integer.MAX_VALUE, 0}, {0, Integer.MIN_VALUE}, {0, Integer.MAX_VALUE}};
        for (int[] call : wrong) {
            Check.due("line(" + call[0] + ", " + call[1] + ")", y.line(call[0], call[1]), BAD);
        }
        Check.due("how often", y.told(0), wrong.length);
    }

    private static void run() {
        Check.sentence("RUN: how many RESULTS are SAID (what 0), LINES that SAID none (1), LINES that are CUT (2), WORK "
                + "of all LINES (3).");
        allOf("", 0, 0, 0, 0);
        allOf("1;", 1, 0, 0, 1);
        allOf("1\\0;", 0, 1, 0, 0);
        allOf("*1~3;1>2;*5|((1~999)=0);*(1~999)=0;8|9;", 5, 2, 2, 5 + 2 + 2000 + 2);
        allOf(times("*1~40;", 8), 240, 0, 0, 8 * 32);
        allOf(times("1>2;", 8), 0, 8, 0, 16);
        allOf(times("*(1~999)=0;", 8), 0, 8, 8, 8000);
        YieldLines y = of("*a=0;");
        Check.due("it says one", y.run(1), 0);
        y.value(0, 1);
        Check.due("by another value it says none", y.run(1), 1);
    }

    private static void allOf(String text, int... want) {
        YieldLines y = of(text);
        for (int what = 0; what < 4; what++) {
            Check.due("run(" + what + ") of '" + text + "'", y.run(what), want[what]);
        }
    }

    private static void runRefuses() {
        Check.sentence("WORK of all LINES (3). BAD.");
        YieldLines y = of("1;");
        for (int what : new int[] {-1, 4, Integer.MIN_VALUE, Integer.MAX_VALUE}) {
            Check.due("run(" + what + ")", y.run(what), BAD);
        }
        Check.due("how often", y.told(0), 4);
        Check.due("BAD with no lines, too", new YieldLines().run(4), BAD);
    }

    private static void said() {
        Check.sentence("RUN: the i-th RESULT SAID (0 on); NONE: not so many.");
        YieldLines y = of("*1~3;1>2;7;");
        Check.same("all", allSaid(y), "1 2 3 7");
        Check.due("one behind the last", y.said(4), NONE);
        Check.due("far behind", y.said(Integer.MAX_VALUE), NONE);
        Check.due("of nothing", of("1>2;").said(0), NONE);
        Check.due("of no lines", new YieldLines().said(0), NONE);
        YieldLines most = of(times("*1~40;", 8));
        Check.due("the last of the most", most.said(239), 30);
        Check.due("one behind it", most.said(240), NONE);
        most.drops(0);
        Check.due("fewer now", most.said(210), NONE);
        Check.due("a NUMBER near NONE is none", with("a;", -999999).said(0), -999999);
        Check.due("NONE is not counted", y.told(0) + y.told(1) + y.told(2), 0);
    }

    private static void saidRefuses() {
        Check.sentence("BAD: i below 0.");
        YieldLines y = of("1;");
        Check.due("said(-1)", y.said(-1), BAD);
        Check.due("said(least)", y.said(Integer.MIN_VALUE), BAD);
        Check.due("how often", y.told(0), 2);
        Check.due("said(0)", y.said(0), 1);
        Check.due("BAD with no lines, too", new YieldLines().said(-1), BAD);
    }

    private static void did() {
        Check.sentence("RUN: of a LINE how many RESULTS are SAID (what 0), its WORK (1), whether it is CUT (2: 1, 0), the "
                + "last RESULT SAID (3; NONE).");
        YieldLines y = of("*1~3;1>2;8|9;*(1~999)=0;*5|((1~999)=0);*1~99;1\\0;*a;");
        int[][] want = {{3, 5, 0, 3}, {0, 2, 0, NONE}, {1, 2, 0, 8}, {0, 1000, 1, NONE}, {1, 1000, 1, 5},
            {30, 32, 0, 30}, {0, 0, 0, NONE}, {1, 1, 0, 0}};
        for (int k = 0; k < want.length; k++) {
            for (int what = 0; what < 4; what++) {
                Check.due("did(" + k + ", " + what + ")", y.did(k, what), want[k][what]);
            }
        }
        Check.due("lines ahead of it count", of("a:5;a;").did(1, 3), 5);
        YieldLines other = of("*a=0;*(1~499)=a;");
        Check.due("one", other.did(0, 0), 1);
        Check.due("not cut", other.did(1, 2), 0);
        other.value(0, 1);
        Check.due("by another value none", other.did(0, 0), 0);
        Check.due("nor a last one", other.did(0, 3), NONE);
        Check.due("and cut", other.did(1, 2), 1);
        Check.due("NONE is not counted", y.told(0), 0);
    }

    private static void didRefuses() {
        Check.sentence("the last RESULT SAID (3; NONE). BAD.");
        YieldLines y = of("1;2;");
        int[][] wrong = {{-1, 0}, {2, 0}, {8, 0}, {0, -1}, {0, 4}, {1, 4}, {2, 4}, {Integer.MIN_VALUE, 0},
            {Integer.MAX_VALUE, 0}, {0, Integer.MIN_VALUE}, {0, Integer.MAX_VALUE}};
        for (int[] call : wrong) {
            Check.due("did(" + call[0] + ", " + call[1] + ")", y.did(call[0], call[1]), BAD);
        }
        Check.due("how often", y.told(0), wrong.length);
    }

    private static void ends() {
        Check.sentence("RUN: the VALUE of a NAME at the end. BAD.");
        Check.same("no lines", allEnds(with("", 1, 2, 3, 4)), "1 2 3 4");
        Check.same("lines", allEnds(with("a:5;*b:1~3;*c^1~3;d^9;", 1, 2, 3, 4)), "5 3 3 9");
        Check.same("behind a line that is cut", allEnds(of("*(a:1~400)=0;b:a;")), "333 333 0 0");
        YieldLines y = of("a:5;");
        for (int x : new int[] {-1, 4, Integer.MIN_VALUE, Integer.MAX_VALUE}) {
            Check.due("ends(" + x + ")", y.ends(x), BAD);
        }
        Check.due("how often", y.told(0), 4);
        y.value(0, 9);
        Check.due("at the end, not to begin with", y.ends(0), 5);
    }

    private static void alone() {
        Check.sentence("LINE k alone, from VALUES to begin with, as EVERY: the i-th RESULT (0 on);");
        YieldLines y = with("a:5;a|a+1|a+2;*b;", 7, 8);
        Check.due("alone: no line ahead of it is done", y.alone(1, 0), 7);
        Check.due("in the run it is", y.did(1, 3), 5);
        Check.due("as EVERY", y.alone(1, 1), 8);
        Check.due("the last", y.alone(1, 2), 9);
        Check.due("the first line", y.alone(0, 0), 5);
        Check.due("the last line", y.alone(2, 0), 8);
        Check.due("the run is as it was", y.run(0), 3);
        Check.due("and its ends", y.ends(0), 5);
        Check.due("from values to begin with, again", y.alone(1, 0), 7);
        Check.due("an EVERY of its own", of("*1~3;").alone(0, 2), 3);
        Check.due("the 30th", of("1~99;").alone(0, 29), 30);
        Check.due("ahead of a cut", of("5|((1~999)=0);").alone(0, 0), 5);
        Check.due("behind lines that are cut", of("*(1~999)=0;6;").alone(1, 0), 6);
    }

    private static void aloneHasNone() {
        Check.sentence("`int alone(int k, int i)`: LINE k alone, from VALUES to begin with, as EVERY: the i-th RESULT "
                + "(0 on); NONE: not so many.");
        YieldLines y = of("1|2;1>2;1~99;5|((1~999)=0);");
        Check.due("one behind the last", y.alone(0, 2), NONE);
        Check.due("far behind", y.alone(0, Integer.MAX_VALUE), NONE);
        Check.due("of none", y.alone(1, 0), NONE);
        Check.due("the 31st", y.alone(2, 30), NONE);
        Check.due("far behind the 31st", y.alone(2, Integer.MAX_VALUE), NONE);
        Check.due("behind a cut", y.alone(3, 1), NONE);
        Check.due("NONE is not counted", y.told(0), 0);
    }

    private static void aloneRefuses() {
        Check.sentence("BAD: i below 0, too.");
        YieldLines y = of("1;2;");
        int[][] wrong = {{-1, 0}, {2, 0}, {8, 0}, {0, -1}, {1, -1}, {2, -1}, {Integer.MIN_VALUE, 0},
            {Integer.MAX_VALUE, 0}, {0, Integer.MIN_VALUE}};
        for (int[] call : wrong) {
            Check.due("alone(" + call[0] + ", " + call[1] + ")", y.alone(call[0], call[1]), BAD);
        }
        Check.due("how often", y.told(0), wrong.length);
    }

    private static void back() {
        Check.sentence("A STATE back: how many can be yet.");
        YieldLines y = of("1;2;");
        y.value(0, 5);
        y.drops(0);
        Check.due("two yet", y.back(), 2);
        Check.same("the line is there", allSaid(y), "1 2");
        Check.due("one yet", y.back(), 1);
        Check.due("the value is as it was", y.ends(0), 0);
        Check.due("none yet", y.back(), 0);
        Check.due("the lines are gone", y.told(4), 0);
        Check.due("back leaves no state", y.told(6), 0);
    }

    private static void backRefuses() {
        Check.sentence("NO: none.");
        YieldLines y = new YieldLines();
        Check.due("of a new object", y.back(), NO);
        y.value(0, 5);
        Check.due("one", y.back(), 0);
        Check.due("none", y.back(), NO);
        Check.due("none", y.back(), NO);
        Check.due("how often", y.told(1), 3);
        Check.due("no BAD", y.told(0), 0);
    }

    private static void told() {
        Check.sentence("How often refused: BAD (0), NO (1), FULL (2); bytes of THE TEXT (3), LINES (4), NODES of all LINES "
                + "(5), STATES (6).");
        YieldLines y = new YieldLines();
        y.back();
        y.type(128);
        y.type(-1);
        read(y, "1+2;*a:4;");
        y.value(0, 1);
        y.drops(0);
        for (int n = 9; n < 153; n++) {
            y.type(' ');
        }
        int[] want = {2, 1, 3, 150, 1, 2, 3};
        for (int what = 0; what < 7; what++) {
            Check.due("told(" + what + ")", y.told(what), want[what]);
        }
        YieldLines most = of(times("1+1+1+1;", 7) + "1+1+1+1+1+1;");
        Check.due("most lines", most.told(4), 8);
        Check.due("most nodes", most.told(5), 60);
    }

    private static void toldRefuses() {
        Check.sentence("NODES of all LINES (5), STATES (6). BAD.");
        YieldLines y = new YieldLines();
        for (int what : new int[] {-1, 7, Integer.MIN_VALUE, Integer.MAX_VALUE}) {
            Check.due("told(" + what + ")", y.told(what), BAD);
        }
        Check.due("how often, itself too", y.told(0), 4);
    }

    private static void digest() {
        Check.sentence("h = 2467; then h = 31 h + v for each v: told(0) to told(6); VALUES to begin with; LINE by LINE "
                + "line(0) to line(3), did(0) to did(3); run(0) to run(3); all that is SAID; VALUES at the end.");
        digestIsDue("a new object", new YieldLines(), 0, 0, 0, 0);
        digestIsDue("no lines", with("", 1, -2, 999999, -999999), 1, -2, 999999, -999999);
        digestIsDue("one line", with("*a|b;", 1, 2), 1, 2, 0, 0);
        digestIsDue("a line that says none", of("1>2;"), 0, 0, 0, 0);
        digestIsDue("a line that is cut", of("*5|(a:(1~999)=0);b^7;"), 0, 0, 0, 0);
        YieldLines refused = with("a:5;*b^c|d;", 3, -4, 5, -6);
        refused.back();
        refused.value(0, 3);
        refused.told(7);
        digestIsDue("refused", refused, 3, -4, 5, 0);
        Check.due("it changes nothing", refused.digest(), refused.digest());
        YieldLines none = new YieldLines();
        none.back();
        Check.same("how often is in it", none.digest() == new YieldLines().digest(), false);
    }

    private static void digestOfAll() {
        Check.sentence("all that is SAID; VALUES at the end.");
        // The longest row: it wraps around many times.
        digestIsDue("the most lines that say the most", with(times("*c:a~b;", 8), -999999, 999999),
                -999999, 999999, 0, 0);
    }

    /** The row as the other calls tell it, taken together without a wrap-around, then cut to 64 bits. */
    private static void digestIsDue(String what, YieldLines y, int... values) {
        long got = y.digest();
        List<Integer> row = new ArrayList<>();
        for (int n = 0; n < 7; n++) {
            row.add(y.told(n));
        }
        for (int value : values) {
            row.add(value);
        }
        int lines = y.told(4);
        for (int k = 0; k < lines; k++) {
            for (int n = 0; n < 4; n++) {
                row.add(y.line(k, n));
            }
            for (int n = 0; n < 4; n++) {
                row.add(y.did(k, n));
            }
        }
        int said = y.run(0);
        for (int n = 0; n < 4; n++) {
            row.add(y.run(n));
        }
        for (int i = 0; i < said; i++) {
            row.add(y.said(i));
        }
        for (int x = 0; x < 4; x++) {
            row.add(y.ends(x));
        }
        BigInteger h = BigInteger.valueOf(2467);
        for (int v : row) {
            h = h.multiply(BigInteger.valueOf(31)).add(BigInteger.valueOf(v));
        }
        Check.due("digest of " + what, got, h.longValue());
    }
}
