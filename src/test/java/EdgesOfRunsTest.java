/** The edges of a RUN, of WORK and of a CUT, sentence by sentence. */
public final class EdgesOfRunsTest extends Telling {
    /** Parts that YIELD nothing, by so many RESULTS of WORK: an x for each of a range, with 0 for each x. */
    private static final String WORK_998 = "((1~498)=0)", WORK_999 = "(1>((1~498)=0))", WORK_1000 = "((1~499)=0)";
    private static final String TOO_MUCH = "((1~500)=0)";

    private EdgesOfRunsTest() {
    }

    public static void main(String[] args) {
        lines();
        valuesToBeginWith();
        linesOneByOne();
        once();
        everyToItsEnd();
        everyToThirty();
        whatIsSaid();
        work();
        partsOfThisTest();
        thousandAndOne();
        eachNodeAsTheLast();
        nothingGoesOn();
        valuesAsTheyAreThen();
        becameAheadOfBeingYielded();
        saidStays();
        workIsThousand();
        nextLineIsDone();
        Check.end();
    }

    private static void lines() {
        Check.sentence("THE PROGRAM: LINES 0 .. 7, each an EXPRESSION, ONCE or EVERY.");
        YieldLines y = of("1;*2;3;*4;5;*6;7;*8;");
        Check.same("said", allSaid(y), "1 2 3 4 5 6 7 8");
        Check.due("the first", y.line(0, 0), 0);
        Check.due("the last", y.line(7, 0), 1);
        Check.due("one below", y.line(-1, 0), BAD);
        Check.due("one above", y.line(8, 0), BAD);
        fault("1;*2;3;*4;5;*6;7;*8;9;", 20);
    }

    private static void valuesToBeginWith() {
        Check.sentence("A RUN: VALUES are as told to begin with (0 at first);");
        Check.same("0 at first", allSaid(of("a;b;c;d;")), "0 0 0 0");
        Check.same("as told", allSaid(with("a;b;c;d;", 999999, -999999, 1, -1)), "999999 -999999 1 -1");
        YieldLines y = with("a:a+1;", 4);
        Check.due("a run", y.said(0), 5);
        Check.due("a run once more begins as the first", y.said(0), 5);
        Check.due("ends", y.ends(0), 5);
        Check.due("what is told to begin with stays", y.value(0, 4), 4);
    }

    private static void linesOneByOne() {
        Check.sentence("LINES one by one:");
        says("a;a:a+1;a;a:a+1;a;", "0 1 1 2 2");
        Check.due("no lines: nothing is said", new YieldLines().run(0), 0);
        Check.same("no lines: values end as they begin", allEnds(with("", 1, 2, 3, 4)), "1 2 3 4");
    }

    private static void once() {
        Check.sentence("of ONCE one RESULT is asked for;");
        saysAndWorks("1|2;", "1", 2);
        saysAndWorks("1>2;", "", 2);
        saysAndWorks("1\\0;", "", 0);
        saysAndEnds("1|(a:5);", "1", "0 0 0 0");
        saysAndEnds("a^5;", "5", "5 0 0 0");
        saysAndEnds("a:1~3;", "1", "1 0 0 0");
        saysAndWorks("(1~3)=3;", "3", 2 + 3 + 3 + 1);
        does("5|" + TOO_MUCH + ";", 1, 2, 0);
    }

    private static void everyToItsEnd() {
        Check.sentence("of EVERY RESULTS are asked for until there is none,");
        saysAndWorks("*(1>2);", "", 2);
        saysAndWorks("*1;", "1", 1);
        saysAndWorks("*1~3;", "1 2 3", 5);
        saysAndEnds("*a^5;", "5", "0 0 0 0");
        saysAndEnds("*1|((a:5)\\1)|((b:6)&1>2);", "1 5", "5 6 0 0");
        does("*1~29;", 29, 31, 0);
        Check.due("behind the 29th it is asked on", of("*a^1~29;").ends(0), 0);
    }

    private static void everyToThirty() {
        Check.sentence("or 30 were YIELDED.");
        does("*1~30;", 30, 32, 0);
        does("*1~31;", 30, 32, 0);
        does("*1~999;", 30, 32, 0);
        Check.due("the 30th", of("*1~31;").did(0, 3), 30);
        Check.due("behind the 30th it is not asked on", of("*a^1~30;").ends(0), 30);
        Check.due("a 30th by another way", of("*(1~29)|(a:5);").ends(0), 5);
        Check.due("a 31st by another way", of("*(1~30)|(a:5);").ends(0), 0);
        does("*(1~29)|" + TOO_MUCH + ";", 29, 1000, 1);
        does("*(1~30)|" + TOO_MUCH + ";", 30, 62, 0);
        Check.due("30 of each line", of(times("*1~40;", 8)).run(0), 240);
    }

    private static void whatIsSaid() {
        Check.sentence("What a LINE YIELDS so is SAID.");
        says("*1~2;3;4>5;*6;", "1 2 3 6");
        Check.due("what NODES within it YIELD is not", of("*(1~9)&(1>2);").run(0), 0);
        Check.due("nothing is said", of("1>2;*1>2;").said(0), NONE);
    }

    private static void work() {
        Check.sentence("WORK of a LINE: how many RESULTS all NODES YIELDED in it (each time).");
        does("*7;", 1, 1, 0);
        does("*7\\0;", 0, 0, 0);
        does("*(1|2)&(3|4);", 4, 16, 0);
        does("*(1|2)&!(1>2);", 2, 12, 0);
        does("*a:b^7;", 1, 3, 0);
        YieldLines y = of("*(1~299)=0;*(1~299)=0;");
        Check.due("each line has its own: the first", y.did(0, 1), 600);
        Check.due("the second", y.did(1, 1), 600);
        Check.due("no cut by both together", y.run(2), 0);
    }

    /** What the tests of a CUT are built on. */
    private static void partsOfThisTest() {
        Check.sentence("If a NODE would YIELD the 1001st, the LINE is CUT");
        does("*" + WORK_998 + ";", 0, 998, 0);
        does("*" + WORK_999 + ";", 0, 999, 0);
        does("*" + WORK_1000 + ";", 0, 1000, 0);
        does("*" + TOO_MUCH + ";", 0, 1000, 1);
    }

    private static void thousandAndOne() {
        Check.sentence("If a NODE would YIELD the 1001st, the LINE is CUT just then:");
        // The 1000th is YIELDED and SAID; there is no 1001st.
        does("*" + WORK_998 + "|7;", 1, 1000, 0);
        does(WORK_998 + "|7;", 1, 1000, 0);
        // The 1001st would be that of | .
        does("*" + WORK_999 + "|7;", 0, 1000, 1);
        does(WORK_999 + "|7;", 0, 1000, 1);
        // Of ONCE the 1001st is not asked for, of EVERY it is.
        does("((1~497)=0)|7|8;", 1, 999, 0);
        does("*((1~497)=0)|7|8;", 1, 1000, 1);
        // A comparison that YIELDS nothing is no 1001st.
        does("*" + WORK_998 + "|(1>2);", 0, 1000, 0);
        does("*" + WORK_998 + "|(1<2);", 0, 1000, 1);
        does("*" + WORK_1000 + "|(7\\0);", 0, 1000, 0);
        does("*(1~998)&(7\\0);", 0, 1000, 0);
        does("*(1~999)&(7\\0);", 0, 1000, 1);
    }

    private static void eachNodeAsTheLast() {
        Check.sentence("If a NODE would YIELD the 1001st,");
        String[] behind1000 = {"7", "a", "!(7\\0)"};
        String[] behind999 = {"7\\1", "(a:7)", "(a^7)", "(7|8)", "!!7"};
        String[] behind998 = {"(1&2)", "(1~2)", "1+2", "1-2", "1*2", "(1<2)", "(2>1)", "(1=1)"};
        for (String node : behind1000) {
            does("*" + WORK_1000 + "|" + node + ";", 0, 1000, 1);
        }
        for (String node : behind999) {
            does("*" + WORK_999 + "|" + node + ";", 0, 1000, 1);
        }
        for (String node : behind998) {
            does("*" + WORK_998 + "|" + node + ";", 0, 1000, 1);
        }
        does("*!" + WORK_1000 + ";", 0, 1000, 1);
        does("*!" + WORK_999 + ";", 1, 1000, 0);
    }

    private static void nothingGoesOn() {
        Check.sentence("the LINE is CUT just then: nothing of it goes on,");
        saysAndEnds("*" + TOO_MUCH + "|(a:5);", "", "0 0 0 0");
        saysAndEnds("*!" + TOO_MUCH + "&(a:5);", "", "0 0 0 0");
        saysAndEnds("*!!" + TOO_MUCH + ";", "", "0 0 0 0");
        saysAndEnds("*(1|(a:5))&" + TOO_MUCH + ";", "", "0 0 0 0");
        saysAndEnds("*(1~9)+" + TOO_MUCH + "|7;", "", "0 0 0 0");
        saysAndEnds("*(a^b:1)&" + TOO_MUCH + ";", "", "1 1 0 0");
        saysAndEnds("*(a^1)&((1~3)=0);", "", "0 0 0 0");
        does("*" + TOO_MUCH + "|7;", 0, 1000, 1);
    }

    private static void valuesAsTheyAreThen() {
        Check.sentence("VALUES are as they are then");
        // 3 of each x: of ~ , of : , of 0; the 1001st is the 0 behind a VALUE of 333.
        Check.due(": then", of("*(a:1~400)=0;").ends(0), 333);
        Check.due("^ then", of("*(a^1~400)=0;").ends(0), 333);
        // Two of WORK more: the 1001st is that of ~ ; by then : is as it was, and ^ has given back.
        Check.due(": ahead of its A", of("*(1|1)&(a:1~400)=0;").ends(0), 332);
        Check.due("^ ahead of its A", with("*(1|1)&(a^1~400)=0;", 7).ends(0), 7);
        // The NAME's own VALUE to begin with stays.
        Check.due("to begin with", with("*(a:1~400)=0;", 7).value(0, 7), 7);
    }

    private static void becameAheadOfBeingYielded() {
        Check.sentence("(of x : A, x ^ A that of x became the RESULT ahead of its being YIELDED)");
        saysAndEnds("*" + WORK_999 + "|(a:7);", "", "7 0 0 0");
        saysAndEnds("*" + WORK_999 + "|(a^7);", "", "7 0 0 0");
        saysAndEnds("*" + WORK_1000 + "|(a:7);", "", "0 0 0 0");
        saysAndEnds("*" + WORK_1000 + "|(a^7);", "", "0 0 0 0");
        saysAndEnds("*" + WORK_999 + "|(a:b:7);", "", "0 7 0 0");
        saysAndEnds("*" + WORK_998 + "|(a:b:7);", "", "7 7 0 0");
        Check.due("one of WORK more: the 1001st is that of :", of("*(1)&(a:1~400)=0;").ends(0), 333);
        Check.due("one of WORK more: the 1001st is that of ^", of("*(1)&(a^1~400)=0;").ends(0), 333);
    }

    private static void saidStays() {
        Check.sentence("what was SAID stays,");
        YieldLines y = of("*5|6|" + TOO_MUCH + "|7;");
        Check.same("said ahead of the cut", allSaid(y), "5 6");
        Check.due("of the line", y.did(0, 0), 2);
        Check.due("the last", y.did(0, 3), 6);
        Check.due("the line is no silent one", y.run(1), 0);
        Check.due("one cut ahead of any is", of("*" + TOO_MUCH + ";").run(1), 1);
        Check.due("it has no last", of("*" + TOO_MUCH + ";").did(0, 3), NONE);
    }

    private static void workIsThousand() {
        Check.sentence("WORK is 1000;");
        Check.due("of EVERY", of("*(1~99)&(1~99)=100;").did(0, 1), 1000);
        Check.due("of ONCE", of("(1~999)=0;").did(0, 1), 1000);
        Check.due("of all lines", of(times("*(1~999)=0;", 8)).run(3), 8000);
        Check.due("all lines are cut", of(times("*(1~999)=0;", 8)).run(2), 8);
    }

    private static void nextLineIsDone() {
        Check.sentence("the next LINE is done.");
        says("*" + TOO_MUCH + ";7;", "7");
        says("*" + WORK_999 + "|(a:7);a+1;", "8");
        saysAndWorks("*5|" + TOO_MUCH + ";*1~3;", "5 1 2 3", 1005);
        Check.due("it is not cut for that", of("*" + TOO_MUCH + ";7;").did(1, 2), 0);
        Check.due("its own work", of("*" + TOO_MUCH + ";7;").did(1, 1), 1);
        Check.due("it may be cut, too", of("*" + TOO_MUCH + ";7|" + TOO_MUCH + ";*" + TOO_MUCH + ";").run(2), 2);
    }
}
