import java.util.LinkedHashMap;
import java.util.Map;
import java.util.function.ToIntFunction;

/** The edges of STATES and of what is refused, sentence by sentence. */
public final class EdgesOfStatesTest extends Telling {
    private static final int LINES = 3;

    private EdgesOfStatesTest() {
    }

    public static void main(String[] args) {
        callsThatLeaveOne();
        callsThatLeaveNone();
        refusedLeaveNone();
        nothingChangesByIt();
        whatAStateHolds();
        whatAStateDoesNotHold();
        fiveAtMost();
        olderOnesLost();
        ringGoesRound();
        refusedChangesNothing();
        badFirst();
        eachBadCounts();
        eachNoCounts();
        eachFullCounts();
        faultsCountNothing();
        noneIsNoRefusal();
        Check.end();
    }

    /** Three LINES, two NAMES with VALUES, a TEXT that is another; four STATES. */
    private static YieldLines used() {
        YieldLines y = with("a;*b:1~3;*1~9>a;5;", 7, -8);
        y.drops(3);
        typed(y, "c+1;(d:2)&9;");
        return y;
    }

    private static YieldLines usedAndFull() {
        YieldLines y = used();
        for (int n = y.told(3); n < 150; n++) {
            y.type(' ');
        }
        return y;
    }

    private static YieldLines noStates() {
        YieldLines y = new YieldLines();
        typed(y, "c+1;(d:2)&9;");
        return y;
    }

    /** All that can be asked for, but how often was refused. */
    private static String answers(YieldLines y) {
        return y.told(3) + " bytes, " + y.told(6) + " states, " + ofState(y);
    }

    /** Of what one goes back to, all that can be asked for. */
    private static String ofState(YieldLines y) {
        StringBuilder all = new StringBuilder();
        int lines = y.told(4);
        all.append(lines).append(' ').append(y.told(5)).append(' ');
        for (int k = 0; k < lines; k++) {
            for (int what = 0; what < 4; what++) {
                all.append(y.line(k, what)).append(' ').append(y.did(k, what)).append(' ');
            }
            all.append(y.alone(k, 0)).append(' ');
        }
        return all.append(allSaid(y)).append(' ').append(allEnds(y)).toString();
    }

    /** In fewer calls, of which an object has but 512. */
    private static String ofStateInShort(YieldLines y) {
        return y.told(4) + " " + y.told(5) + " " + allSaid(y) + " " + allEnds(y);
    }

    private static void callsThatLeaveOne() {
        Check.sentence("STATES: each call told S, if it is not refused, leaves one,");
        YieldLines y = new YieldLines();
        typed(y, "1;2;");
        Check.due("none yet", y.told(6), 0);
        y.reads();
        Check.due("by reads", y.told(6), 1);
        y.value(0, 5);
        Check.due("by value", y.told(6), 2);
        y.drops(0);
        Check.due("by drops", y.told(6), 3);
    }

    private static void callsThatLeaveNone() {
        Check.sentence("each call told S,");
        YieldLines y = used();
        int states = y.told(6);
        answers(y);
        y.said(0);
        y.run(0);
        y.digest();
        y.type(' ');
        y.clear();
        Check.due("by all others", y.told(6), states);
        y.back();
        Check.due("by back: one less", y.told(6), states - 1);
    }

    private static void refusedLeaveNone() {
        Check.sentence("if it is not refused, leaves one,");
        YieldLines y = used();
        int states = y.told(6);
        y.value(4, 0);
        y.value(-1, 0);
        y.value(0, 1000000);
        y.value(0, -1000000);
        y.drops(-1);
        y.drops(LINES);
        Check.due("by value and drops refused", y.told(6), states);
        Check.due("by a fault", read(y, "1+;"), -12);
        Check.due("none by a fault", y.told(6), states);
    }

    private static void nothingChangesByIt() {
        Check.sentence("leaves one, also if nothing changes by it,");
        YieldLines y = new YieldLines();
        y.reads();
        Check.due("an empty text read on no lines", y.told(6), 1);
        y.value(2, 0);
        Check.due("the same value", y.told(6), 2);
        read(y, "1;");
        y.reads();
        Check.due("the same text again", y.told(6), 4);
        Check.due("back", y.back(), 3);
        Check.due("as before", y.said(0), 1);
        Check.due("back", y.back(), 2);
        Check.due("no lines", y.told(4), 0);
    }

    private static void whatAStateHolds() {
        Check.sentence("to go back to (THE PROGRAM, VALUES to begin with),");
        YieldLines y = with("a;*b:1~3;", 7, -8, 999999, -999999);
        String before = ofState(y);
        y.value(0, 1);
        y.drops(0);
        y.drops(0);
        read(y, "*c;d;1;2;3;");
        for (int n = 0; n < 4; n++) {
            y.back();
        }
        Check.same("all is as it was", ofState(y), before);
        Check.same("said", allSaid(y), "7 1 2 3");
        Check.same("ends", allEnds(y), "7 3 999999 -999999");
        Check.due("lines", y.told(4), 2);
        Check.due("nodes", y.told(5), 5);
        Check.due("EVERY", y.line(1, 0), 1);
        Check.due("names", y.line(1, 2), 2);
        Check.due("names ahead of :", y.line(1, 3), 2);
    }

    private static void whatAStateDoesNotHold() {
        Check.sentence("(THE PROGRAM, VALUES to begin with)");
        YieldLines y = of("1;");
        y.type(-1);
        typed(y, "2;3;");
        Check.due("back", y.back(), 0);
        Check.due("the text stays", y.told(3), 4);
        Check.due("how often stays", y.told(0), 1);
        Check.due("the text is read", y.reads(), 2);
        Check.due("as it was typed", y.said(1), 3);
    }

    private static void fiveAtMost() {
        Check.sentence("5 at most,");
        YieldLines y = new YieldLines();
        for (int n = 1; n <= 8; n++) {
            y.value(0, n);
            Check.due("states behind " + n, y.told(6), Math.min(n, 5));
        }
        for (int left = 4; left >= 0; left--) {
            Check.due("back", y.back(), left);
        }
        Check.due("no sixth", y.back(), NO);
    }

    private static void olderOnesLost() {
        Check.sentence("older ones lost.");
        YieldLines y = new YieldLines();
        for (int n = 1; n <= 5; n++) {
            y.value(0, n);
        }
        YieldLines lost = new YieldLines();
        for (int n = 1; n <= 6; n++) {
            lost.value(0, n);
        }
        for (int n = 0; n < 5; n++) {
            y.back();
            lost.back();
        }
        Check.due("of five the first is there", y.ends(0), 0);
        Check.due("of six it is lost", lost.ends(0), 1);
        lost.back();
        Check.due("for good", lost.ends(0), 1);
    }

    private static void ringGoesRound() {
        Check.sentence("5 at most, older ones lost.");
        YieldLines y = new YieldLines();
        for (int n = 1; n <= 13; n++) {
            y.value(1, n);
        }
        Check.due("back", y.back(), 4);
        Check.due("back", y.back(), 3);
        Check.due("value", y.ends(1), 11);
        y.value(1, 20);
        y.value(1, 21);
        y.value(1, 22);
        Check.due("five again", y.told(6), 5);
        for (int due : new int[] {21, 20, 11, 10, 9}) {
            y.back();
            Check.due("value", y.ends(1), due);
        }
        Check.due("none behind it", y.back(), NO);
        y.value(1, 30);
        Check.due("one again", y.told(6), 1);
        Check.due("back", y.back(), 0);
        Check.due("value", y.ends(1), 9);
    }

    private static Map<String, ToIntFunction<YieldLines>> badCalls() {
        Map<String, ToIntFunction<YieldLines>> calls = new LinkedHashMap<>();
        int[] wrongNames = {-1, 4, Integer.MIN_VALUE, Integer.MAX_VALUE};
        int[] wrongLines = {-1, LINES, 8, Integer.MIN_VALUE, Integer.MAX_VALUE};
        int[] wrongValues = {-1000000, 1000000, Integer.MIN_VALUE, Integer.MAX_VALUE};
        for (int n : new int[] {-1, 128, Integer.MIN_VALUE, Integer.MAX_VALUE}) {
            calls.put("type " + n, y -> y.type(n));
        }
        for (int n : wrongNames) {
            calls.put("value of " + n, y -> y.value(n, 1));
            calls.put("ends " + n, y -> y.ends(n));
            calls.put("line 0 what " + n, y -> y.line(0, n));
            calls.put("did 0 what " + n, y -> y.did(0, n));
            calls.put("run " + n, y -> y.run(n));
        }
        for (int n : wrongValues) {
            calls.put("value 0 to " + n, y -> y.value(0, n));
            calls.put("value 9 to " + n, y -> y.value(9, n));
        }
        for (int n : wrongLines) {
            calls.put("drops " + n, y -> y.drops(n));
            calls.put("line " + n, y -> y.line(n, 0));
            calls.put("line " + n + " what 9", y -> y.line(n, 9));
            calls.put("did " + n, y -> y.did(n, 0));
            calls.put("did " + n + " what 9", y -> y.did(n, 9));
            calls.put("alone " + n, y -> y.alone(n, 0));
            calls.put("alone " + n + " at -1", y -> y.alone(n, -1));
        }
        for (int n : new int[] {-1, Integer.MIN_VALUE}) {
            calls.put("said " + n, y -> y.said(n));
            calls.put("alone 0 at " + n, y -> y.alone(0, n));
        }
        for (int n : new int[] {-1, 7, Integer.MIN_VALUE, Integer.MAX_VALUE}) {
            calls.put("told " + n, y -> y.told(n));
        }
        return calls;
    }

    /** One object is asked what is refused, its twin is not: then both answer the same, also going back. */
    private static void refuses(String call, ToIntFunction<YieldLines> asked, int answer, YieldLines y, YieldLines twin) {
        Check.due(call, asked.applyAsInt(y), answer);
        Check.same("all behind " + call, answers(y), answers(twin));
        for (int what = 0; what < 3; what++) {
            int more = what == BAD - answer ? 1 : 0;
            Check.due("told(" + what + ") behind " + call, y.told(what), twin.told(what) + more);
        }
        Check.due("the text behind " + call, y.reads(), twin.reads());
        Check.same("all read behind " + call, answers(y), answers(twin));
        int states = twin.told(6);
        for (int n = 0; n < states; n++) {
            twin.back();
            y.back();
            Check.same("back behind " + call, ofStateInShort(y), ofStateInShort(twin));
        }
    }

    private static void refusedChangesNothing() {
        Check.sentence("Refused (a question, too), changing nothing but how often,");
        badCalls().forEach((call, asked) -> refuses(call, asked, BAD, used(), used()));
        refuses("back with no state", YieldLines::back, NO, noStates(), noStates());
        refuses("type on a full text", y -> y.type('1'), FULL, usedAndFull(), usedAndFull());
        refuses("type a wrong byte on a full text", y -> y.type(128), BAD, usedAndFull(), usedAndFull());
        refuses("line of a new object", y -> y.line(0, 0), BAD, noStates(), noStates());
        refuses("drops of a new object", y -> y.drops(0), BAD, noStates(), noStates());
        refuses("did of a new object", y -> y.did(0, 0), BAD, noStates(), noStates());
        refuses("alone of a new object", y -> y.alone(0, 0), BAD, noStates(), noStates());
    }

    private static void badFirst() {
        Check.sentence("the first of: BAD -2000000 a number is not as told; NO -2000001 as told; FULL -2000002 as told.");
        YieldLines y = usedAndFull();
        Check.due("BAD ahead of FULL", y.type(128), -2000000);
        Check.due("BAD ahead of FULL", y.type(-1), -2000000);
        Check.due("FULL", y.type(127), -2000002);
        Check.due("FULL", y.type(0), -2000002);
        Check.due("NO", new YieldLines().back(), -2000001);
        Check.due("BAD is counted alone", y.told(0), 2);
        Check.due("FULL is counted alone", y.told(2), 2);
        Check.due("NO is not", y.told(1), 0);
    }

    private static void eachBadCounts() {
        Check.sentence("BAD -2000000 a number is not as told;");
        YieldLines y = used();
        int count = 0;
        for (ToIntFunction<YieldLines> asked : badCalls().values()) {
            asked.applyAsInt(y);
            count++;
        }
        Check.due("each once, also with two wrong numbers", y.told(0), count);
        Check.due("no NO", y.told(1), 0);
        Check.due("no FULL", y.told(2), 0);
    }

    private static void eachNoCounts() {
        Check.sentence("NO -2000001 as told;");
        YieldLines y = noStates();
        for (int n = 1; n <= 3; n++) {
            Check.due("back", y.back(), NO);
            Check.due("how often", y.told(1), n);
        }
        y.reads();
        Check.due("back", y.back(), 0);
        Check.due("it is not refused", y.told(1), 3);
    }

    private static void eachFullCounts() {
        Check.sentence("FULL -2000002 as told.");
        YieldLines y = usedAndFull();
        for (int n = 1; n <= 3; n++) {
            Check.due("type", y.type('1'), FULL);
            Check.due("how often", y.told(2), n);
        }
        Check.due("clear", y.clear(), 150);
        Check.due("type", y.type('1'), 1);
        Check.due("it is not refused", y.told(2), 3);
    }

    private static void faultsCountNothing() {
        Check.sentence("By what THE TEXT tells, by a FAULT of it nothing counts.");
        YieldLines y = used();
        YieldLines twin = used();
        for (String text : new String[] {"1", ";", "1234;", "1:2;", times("1;", 9), times("(", 10), times("!", 61)}) {
            Check.same("a fault", read(y, text) <= -10, true);
        }
        typed(y, "c+1;(d:2)&9;");
        Check.same("all stays", answers(y), answers(twin));
        for (int what = 0; what < 3; what++) {
            Check.due("told(" + what + ")", y.told(what), 0);
        }
        Check.due("digest", y.digest(), twin.digest());
        // Nor by what a RUN can not: numbers too large, a CUT.
        YieldLines run = with("*a+1;*(1~999)=0;", 999999);
        run.run(0);
        Check.due("told(0)", run.told(0), 0);
        Check.due("told(2)", run.told(2), 0);
    }

    private static void noneIsNoRefusal() {
        Check.sentence("NONE: not so many.");
        YieldLines y = used();
        Check.due("said", y.said(99), NONE);
        Check.due("alone", y.alone(0, 99), NONE);
        Check.due("did", of("1>2;").did(0, 3), NONE);
        for (int what = 0; what < 3; what++) {
            Check.due("told(" + what + ")", y.told(what), 0);
        }
    }
}
