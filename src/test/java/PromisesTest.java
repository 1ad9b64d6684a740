/** Each promise of the document by its number: ordinary inputs, the edges it names, wrong inputs. */
public final class PromisesTest extends Telling {
    private PromisesTest() {
    }

    public static void main(String[] args) {
        constants();
        newObject();
        type();
        clear();
        readsGrammar();
        readsFaults();
        readsLimits();
        readsKeepsOrLeavesState();
        value();
        drops();
        line();
        nodesThatPair();
        nodesThatStop();
        namesTakeAndGiveBack();
        run();
        cut();
        said();
        did();
        ends();
        alone();
        back();
        told();
        digest();
        Check.end();
    }

    // ---- the promises

    private static void constants() {
        Check.due("NONE", YieldLines.NONE, NONE);
        Check.due("BAD", YieldLines.BAD, BAD);
        Check.due("NO", YieldLines.NO, NO);
        Check.due("FULL", YieldLines.FULL, FULL);
    }

    private static void newObject() {
        YieldLines y = new YieldLines();
        for (int what = 0; what < 7; what++) {
            Check.due("new: told(" + what + ")", y.told(what), 0);
        }
        for (int what = 0; what < 4; what++) {
            Check.due("new: run(" + what + ")", y.run(what), 0);
            Check.due("new: ends(" + what + ")", y.ends(what), 0);
        }
        Check.due("new: said(0)", y.said(0), NONE);
        Check.due("new: line(0, 0)", y.line(0, 0), BAD);
        Check.due("new: back()", y.back(), NO);
        Check.due("new: value(3, 1)", y.value(3, 1), 0);
        YieldLines other = new YieldLines();
        Check.due("objects share nothing", other.value(3, 1), 0);
    }

    private static void type() {
        YieldLines y = new YieldLines();
        Check.due("type(-1)", y.type(-1), BAD);
        Check.due("type(128)", y.type(128), BAD);
        Check.due("type(0)", y.type(0), 1);
        Check.due("type(127)", y.type(127), 2);
        Check.due("type(max)", y.type(Integer.MAX_VALUE), BAD);
        Check.due("type(min)", y.type(Integer.MIN_VALUE), BAD);
        for (int n = 3; n <= 150; n++) {
            Check.due("type a " + n, y.type('1'), n);
        }
        Check.due("type a 151st", y.type('1'), FULL);
        Check.due("BAD comes ahead of FULL", y.type(128), BAD);
        Check.due("told(0)", y.told(0), 5);
        Check.due("told(2)", y.told(2), 1);
        Check.due("told(3)", y.told(3), 150);
        Check.due("typing leaves no state", y.told(6), 0);
    }

    private static void clear() {
        YieldLines y = new YieldLines();
        Check.due("clear()", y.clear(), 0);
        typed(y, "1;2;");
        Check.due("clear()", y.clear(), 4);
        Check.due("clear() again", y.clear(), 0);
        Check.due("reads nothing", y.reads(), 0);
        read(y, "5;");
        y.clear();
        Check.due("the program stays", y.said(0), 5);
        Check.due("clearing leaves no state", y.told(6), 2);
        for (int n = 0; n < 150; n++) {
            y.type(' ');
        }
        Check.due("clear() of a full text", y.clear(), 150);
        Check.due("type behind it", y.type(';'), 1);
    }

    private static void readsGrammar() {
        Check.due("empty", read(new YieldLines(), ""), 0);
        Check.due("blanks", read(new YieldLines(), "   "), 0);
        Check.due("eight lines", read(new YieldLines(), times("1;", 8)), 8);
        Check.due("eight lines and a blank", read(new YieldLines(), times("1;", 8) + " "), 8);
        says("007;10;999;0;", "7 10 999 0");
        says(" * ( 1 | 2 ) \\ 9 ; ", "1 2");
        // All between go from the left.
        says("9-3-2;100-10+1;", "4 91");
        says("*1~2~3;", "1 2 3 2 3");
        says("3>2>1;1<2<1;3=3=3;", "1 3");
        // From loose to tight: & | < ~ + * \ !
        says("*1|2&3|4;", "3 4 3 4");
        says("*1|2<3|0<2;", "1 3 2");
        says("*3<1~5;", "4 5");
        says("*1+1~2+2;", "2 3 4");
        says("1+2*3;2*3+1;10-2*3;", "7 7 4");
        says("2*(1+2);(10-2)*3;", "6 24");
        says("*(1|2)\\1+5;*1|2\\1;*1+(2|3)\\1;", "6 1 2 3");
        says("!0\\0;*(!0)\\1;!(1\\0);*!(1\\0)\\1;*!(1\\0)\\0;", "0 0");
        says("*(1~9)\\5\\3\\7;", "1 2 3");
        says("!!7;!!!7;!!!!7;", "0 0");
        // : and ^ take all of the E behind them.
        says("a:1+2;a;", "3 3");
        says("*a:1|2;a;", "1 2 2");
        says("a:1&2;a;", "2 2");
        says("a:b:4;a;b;", "4 4 4");
        says("(a):5;((b)):6;a;b;", "5 6 5 6");
        says("a:(b):6;a;b;", "6 6 6");
        says(times("(", 9) + "1" + times(")", 9) + ";", "1");
        says("(1)+(2);", "3");
        says("1&(a:2)&a;", "2");
        says("(a:b:3)+a*b;", "12");
    }

    private static void readsFaults() {
        fault(";", 0);
        fault("1", 1);
        fault("1 ", 2);
        fault("1;2", 3);
        fault("*", 1);
        fault("1;*", 3);
        fault("**1;", 1);
        fault("1;;", 2);
        fault("1+;", 2);
        fault("1+*2;", 2);
        fault("+1;", 0);
        fault("-1;", 0);
        fault("1 2;", 2);
        fault("12 3;", 3);
        fault("1234;", 3);
        fault("0000;", 3);
        fault("1+1234;", 5);
        fault("e;", 0);
        fault("A;", 0);
        fault("`;", 0);
        fault("ab;", 1);
        fault("a1;", 1);
        fault("1a;", 1);
        fault("1(2);", 1);
        fault("1!2;", 1);
        fault("a!;", 1);
        fault("!;", 1);
        fault("!", 1);
        fault("();", 1);
        fault("(1;", 2);
        fault("(1", 2);
        fault("1);", 1);
        fault("(1));", 3);
        fault(");", 0);
        fault("(*1);", 1);
        fault("1\\;", 2);
        fault("1\\", 2);
        fault("1\\12;", 3);
        fault("1\\1 2;", 4);
        fault("1\\a;", 2);
        fault("1\\(2);", 2);
        fault("\\1;", 0);
        fault("a:;", 2);
        fault("a:", 2);
        fault(":1;", 0);
        fault("1:2;", 1);
        fault("1^2;", 1);
        fault("a::1;", 2);
        fault("a:^1;", 2);
        fault("a+b:1;", 3);
        fault("1&a:1;", 3);
        fault("1|a^1;", 3);
        fault("!a:1;", 2);
        fault("!(a):1;", 4);
        fault("a\\1:1;", 3);
        fault("(a\\1):1;", 5);
        fault("(a:1):2;", 5);
        fault("(a+1):2;", 5);
        fault("(1):2;", 3);
        fault("a:1+b:2;", 5);
        fault("a:b+c:2;", 5);
        fault("(a)b;", 3);
        fault("1\t;", 1);
        fault("\n", 0);
        fault("1;\0", 2);
        fault("1\177", 1);
        fault("1,2;", 1);
        fault("1/2;", 1);
        fault("1;a b;", 4);
        fault("a:b^c:d:1;*a:b^c:d:1;*a:b^c:d:1;12", 34);
        fault("*1+2*!(3~(a:!(b^1|2&", 20);
        // A text that ends too early, at its greatest length.
        fault(times(" ", 149) + "1", 150);
        fault(times("(", 9) + "1" + times(" ", 140), 150);
    }

    private static void readsLimits() {
        fault(times("1;", 9), 16);
        fault(times("1;", 8) + "  *", 18);
        fault(times("1;", 8) + ";", 16);
        fault(times("(", 10) + "1", 9);
        fault("(1)+" + times("(", 10), 13);
        Check.due("nine open", read(new YieldLines(), times("(", 9) + "1" + times(")", 9) + ";"), 1);
        Check.due("nine open, twice", read(new YieldLines(),
                times("(", 9) + "1" + times(")", 9) + "+" + times("(", 9) + "1" + times(")", 9) + ";"), 1);
        // 59 NODES in 29 pairs, and what a 60th and a 61st may be.
        String most = "1" + times("+1", 29);
        Check.due("59 nodes", read(new YieldLines(), most + ";"), 1);
        Check.due("60 nodes by \\", read(new YieldLines(), most + "\\1;"), 1);
        fault(most + "\\1\\1;", 61);
        fault(most + "+1;", 60);
        fault(most + "\\1+1;", 61);
        Check.due("60 nodes by a line", read(new YieldLines(), most + ";1;"), 2);
        fault(most + ";12;a;", 63);
        fault(most + ";12;(7;", 64);
        fault(most + ";12;*!7;", 64);
        Check.due("60 nodes by a :", read(new YieldLines(), "a:" + most + ";"), 1);
        fault("a:" + most + ";a:1;", 62);
        fault("a:b:" + most + ";", 62);
        Check.due("60 nodes, all !", read(new YieldLines(), times("!", 59) + "1;"), 1);
        fault(times("!", 60) + "1;", 60);
        fault(times("!", 61) + "1;", 60);
        Check.due("60 names and :", read(new YieldLines(), times("a:", 59) + "1;"), 1);
        fault(times("a:", 60) + "1;", 120);
        fault(times("a^", 61) + "1;", 120);
        Check.due("many \\", read(new YieldLines(), "1" + times("\\1", 59) + ";"), 1);
        fault("1" + times("\\1", 60) + ";", 119);
    }

    private static void readsKeepsOrLeavesState() {
        YieldLines y = of("5;6;");
        y.value(0, 3);
        Check.due("a fault", read(y, "7;8;9;1+;"), -18);
        Check.due("all stays: lines", y.told(4), 2);
        Check.due("all stays: said", y.said(1), 6);
        Check.due("no state by a fault", y.told(6), 2);
        Check.due("no refusal by a fault", y.told(0) + y.told(1) + y.told(2), 0);
        Check.due("the text stays", y.told(3), 9);
        typed(y, "1;");
        Check.due("reads", y.reads(), 1);
        Check.due("reads again", y.reads(), 1);
        Check.due("the text stays", y.told(3), 2);
        Check.due("a state each", y.told(6), 4);
        Check.due("values stay", y.ends(0), 3);
        Check.due("reads 0 lines", read(y, " "), 0);
        Check.due("no lines", y.told(4), 0);
    }

    private static void value() {
        YieldLines y = of("a;b;c;d;");
        Check.due("value(0, 5)", y.value(0, 5), 0);
        Check.due("value(0, 999999)", y.value(0, 999999), 5);
        Check.due("value(0, -999999)", y.value(0, -999999), 999999);
        Check.due("value(3, 1)", y.value(3, 1), 0);
        Check.due("value(4, 1)", y.value(4, 1), BAD);
        Check.due("value(-1, 1)", y.value(-1, 1), BAD);
        Check.due("value(0, 1000000)", y.value(0, 1000000), BAD);
        Check.due("value(0, -1000000)", y.value(0, -1000000), BAD);
        Check.due("value(0, min)", y.value(0, Integer.MIN_VALUE), BAD);
        Check.due("told(0)", y.told(0), 5);
        Check.due("states", y.told(6), 5);
        Check.same("said", allSaid(y), "-999999 0 0 1");
        y.back();
        y.back();
        Check.same("said before", allSaid(y), "999999 0 0 0");
        YieldLines run = of("a:7;");
        run.run(0);
        Check.due("a run leaves values to begin with", run.value(0, 1), 0);
        Check.due("the same value", run.value(0, 1), 1);
        Check.due("is a state, too", run.told(6), 3);
    }

    private static void drops() {
        YieldLines y = of("1;*2|a;b:3;*4;");
        Check.due("drops(-1)", y.drops(-1), BAD);
        Check.due("drops(4)", y.drops(4), BAD);
        Check.due("drops(1)", y.drops(1), 3);
        Check.same("said", allSaid(y), "1 3 4");
        Check.due("line(1, 3)", y.line(1, 3), 2);
        Check.due("line(1, 2)", y.line(1, 2), 2);
        Check.due("line(1, 1)", y.line(1, 1), 2);
        Check.due("line(2, 0)", y.line(2, 0), 1);
        Check.due("nodes", y.told(5), 4);
        Check.due("drops(2)", y.drops(2), 2);
        Check.due("drops(2)", y.drops(2), BAD);
        Check.due("drops(0)", y.drops(0), 1);
        Check.due("drops(0)", y.drops(0), 0);
        Check.due("drops(0)", y.drops(0), BAD);
        Check.due("told(0)", y.told(0), 4);
        Check.due("states", y.told(6), 5);
        Check.due("back", y.back(), 4);
        Check.same("said", allSaid(y), "3");
        YieldLines full = of(times("*!!!!!!!1;", 7));
        full.drops(3);
        Check.due("read behind a drop", read(full, times("!", 59) + "1;"), 1);
        Check.due("nodes", full.told(5), 60);
    }

    private static void line() {
        YieldLines y = of("12;*(a:1~4)*a;b^(c:2)|d;!!(1&a)\\3;(b):(d)^c;");
        int[][] want = {{0, 1, 0, 0}, {1, 6, 1, 1}, {0, 5, 14, 6}, {0, 6, 1, 0}, {0, 3, 14, 10}};
        for (int k = 0; k < want.length; k++) {
            for (int what = 0; what < 4; what++) {
                Check.due("line(" + k + ", " + what + ")", y.line(k, what), want[k][what]);
            }
        }
        Check.due("line(5, 0)", y.line(5, 0), BAD);
        Check.due("line(-1, 0)", y.line(-1, 0), BAD);
        Check.due("line(0, 4)", y.line(0, 4), BAD);
        Check.due("line(0, -1)", y.line(0, -1), BAD);
        Check.due("told(0)", y.told(0), 4);
    }

    private static void nodesThatPair() {
        saysAndWorks("*1|2|3;", "1 2 3", 8);
        saysAndWorks("*(1|2)&(3|4);", "3 4 3 4", 16);
        saysAndWorks("*1~3;", "1 2 3", 5);
        saysAndWorks("*3~3;*3~2;*(0-2)~0;", "3 -2 -1 0", 3 + 2 + 7);
        saysAndWorks("*(1|2)~(2|3);", "1 2 1 2 3 2 2 3", 4 + 8 + 8);
        saysAndWorks("*(1|2)+(10|20);", "11 21 12 22", 16);
        saysAndWorks("*(1|2)-(10|20);", "-9 -19 -8 -18", 16);
        saysAndWorks("*(1|2)*(10|20);", "10 20 20 40", 16);
        saysAndWorks("*(1~5)>3;*(1~5)<3;*(1~5)=3;", "3 3 3 3 3", 14 + 14 + 13);
        saysAndWorks("*2<(1~4);*2>(1~4);*2=(1~4);", "3 4 1 2", 9 + 8 + 8);
        // B is made anew for each RESULT of A, with the VALUES of then.
        says("*(a:1~3)&a+a;", "2 4 6");
        says("*(a:1~3)~a;", "1 2 3");
        says("*a+(a:5)+a;", "10");
        says("*(a:1~3)*(b:1~a);", "1 2 4 3 6 9");
        // Sums and products that are no NUMBERS yield nothing for these two.
        says("999*999+999+999;", "999999");
        says("999*999+999+999+1;0-999*999-999-999;0-999*999-999-999-1;", "-999999");
        says("*(999|1)*999*(999|2|1);", "998001 998001 1998 999");
        YieldLines y = of("*a*b;*a+b;*a-b;*a<b;*a>b;*a=b;*a~b;");
        y.value(0, -999999);
        y.value(1, 999999);
        Check.due("sum of both ends", y.did(1, 3), 0);
        Check.due("least below greatest", y.did(3, 3), 999999);
        Check.due("least not above greatest", y.did(4, 0), 0);
        Check.due("range from the least", y.did(6, 3), -999970);
        Check.due("product of the greatest", y.did(0, 0), 0);
        Check.due("difference of the greatest", y.did(2, 0), 0);
        y.value(0, 999999);
        Check.due("product of the greatest", y.did(0, 0), 0);
        Check.due("sum of the greatest", y.did(1, 0), 0);
        Check.due("range of the greatest", y.did(6, 0), 1);
        Check.due("range of the greatest", y.did(6, 3), 999999);
    }

    private static void nodesThatStop() {
        saysAndWorks("*(1~9)\\3;", "1 2 3", 2 + 3 + 3);
        saysAndWorks("*(1~9)\\0;", "", 0);
        saysAndWorks("*(1~2)\\9;", "1 2", 6);
        saysAndWorks("*(1|2)&(3~9)\\2;", "3 4 3 4", 4 + 2 * (2 + 2 + 2 + 2));
        saysAndWorks("*!(1>2);", "0", 3);
        saysAndWorks("*!(1~9);", "", 3);
        saysAndWorks("*!((1~9)\\0);", "0", 1);
        saysAndWorks("*(1|2)&!(2=1);", "0 0", 4 + 2 * 4);
        // What is not asked further does nothing further.
        YieldLines y = of("*(a:1~9)\\2;*!(b:1~9);*!(c^1~9);*(d^1~9)\\2;");
        Check.due("a", y.ends(0), 2);
        Check.due("b", y.ends(1), 1);
        Check.due("c", y.ends(2), 1);
        Check.due("d", y.ends(3), 2);
    }

    private static void namesTakeAndGiveBack() {
        YieldLines y = of("*(a^1~5)&a>3;a;");
        y.value(0, 7);
        Check.same("said", allSaid(y), "3 3 7");
        Check.due("given back", y.ends(0), 7);
        says("*(a:1~5)&a>3;a;", "3 3 5");
        says("a^5;a;", "5 5");
        says("*a^5;a;", "5 0");
        // What it was ahead of its last becoming so, not ahead of the first.
        says("*(a^1|2)&(a:9)&0;a;", "0 0 0");
        says("*a^(a:3)|4;a;", "3 4 3");
        says("*a^(a:3)|(a:4);a;", "3 4 4");
        says("*a^b^(1|2);a+b;", "1 2 0");
        // Anew, it gives nothing back: the VALUE is as the stopped one left it.
        says("*(1|2)&((a^a+1)\\1);a;", "1 2 2");
        // When it is asked on, it gives back first, then A sees the VALUE given back.
        says("*a^(5|a+1);", "5 1");
        says("*a:(5|a+1);", "5 6");
        // Behind 30 RESULTS it is not asked on.
        YieldLines thirty = of("*a^1~40;*b^1~30;*c^1~29;");
        Check.due("a", thirty.ends(0), 30);
        Check.due("b", thirty.ends(1), 30);
        Check.due("c", thirty.ends(2), 0);
    }

    private static void run() {
        YieldLines y = of("*1~3;1>2;(4|5);*(1~99)&(1~99)=100;*1~99;");
        Check.due("run(0)", y.run(0), 34);
        Check.due("run(1)", y.run(1), 2);
        Check.due("run(2)", y.run(2), 1);
        Check.due("run(3)", y.run(3), 5 + 2 + 2 + 1000 + 32);
        Check.due("run(4)", y.run(4), BAD);
        Check.due("run(-1)", y.run(-1), BAD);
        Check.due("told(0)", y.told(0), 2);
        Check.due("run leaves no state", y.told(6), 1);
        YieldLines values = of("a+1;a:a+1;a:a+1;");
        Check.same("lines one by one", allSaid(values), "1 1 2");
        Check.same("each run from the beginning", allSaid(values), "1 1 2");
        values.value(0, 10);
        Check.same("from values to begin with", allSaid(values), "11 11 12");
    }

    private static void cut() {
        YieldLines y = of("*(1~499)=0;");
        Check.due("2 + 499 + 499", y.did(0, 1), 1000);
        Check.due("is not cut", y.did(0, 2), 0);
        y = of("*(1~500)=0;");
        Check.due("1002 would be", y.did(0, 1), 1000);
        Check.due("is cut", y.did(0, 2), 1);
        y = of("(1~500)=0;");
        Check.due("ONCE is cut, too", y.did(0, 2), 1);
        // The 1000th is the last ahead of that of ! .
        y = of("*!((1~499)=500)|0;");
        Check.due("work", y.did(0, 1), 1000);
        Check.due("cut", y.did(0, 2), 1);
        Check.due("said", y.did(0, 0), 0);
        // 2 + 3 n up to 998, then ~ YIELDS 999, : YIELDS 1000, and 0 would be the 1001st.
        y = of("*(a:1~400)=0;7;");
        Check.due("value is as it is then", y.ends(0), 333);
        Check.due("work", y.did(0, 1), 1000);
        Check.due("the next line is done", y.said(0), 7);
        // One RESULT more ahead of it: : itself would be the 1001st, but the VALUE became.
        y = of("*(1)&(a:1~400)=0;");
        Check.due("value became ahead of its being yielded", y.ends(0), 333);
        Check.due("cut", y.did(0, 2), 1);
        // Two more: ~ would be the 1001st.
        y = of("*(1|1)&(a:1~400)=0;");
        Check.due("cut at A of :", y.ends(0), 332);
        // ^ gives nothing back behind a cut; but when asked on it gave back first.
        y = of("*(a^1~400)=0;");
        Check.due("cut behind ^", y.ends(0), 333);
        y = of("*1&(a^1~400)=0;");
        Check.due("cut at ^", y.ends(0), 333);
        y = of("*(1|1)&(a^1~400)=0;");
        Check.due("cut at A of ^: given back", y.ends(0), 0);
        // What was SAID stays.
        y = of("*5|(1~500)=0;");
        Check.due("said", y.run(0), 1);
        Check.due("last", y.did(0, 3), 5);
        Check.due("cut", y.did(0, 2), 1);
        Check.due("its other ways are not gone on with", of("*((1~500)=0)|5;").run(0), 0);
        Check.due("all lines may be cut", of(times("*(1~999)=0;", 8)).run(3), 8000);
        Check.due("all lines may be cut", of(times("*(1~999)=0;", 8)).run(2), 8);
        Check.due("most said", of(times("*1~99;", 8)).run(0), 240);
    }

    private static void said() {
        YieldLines y = of("*1~3;7;");
        Check.due("said(0)", y.said(0), 1);
        Check.due("said(3)", y.said(3), 7);
        Check.due("said(4)", y.said(4), NONE);
        Check.due("said(max)", y.said(Integer.MAX_VALUE), NONE);
        Check.due("NONE is no refusal", y.told(0), 0);
        Check.due("said(-1)", y.said(-1), BAD);
        Check.due("said(min)", y.said(Integer.MIN_VALUE), BAD);
        Check.due("told(0)", y.told(0), 2);
        YieldLines most = of(times("*1~99;", 8));
        Check.due("said(239)", most.said(239), 30);
        Check.due("said(240)", most.said(240), NONE);
    }

    private static void did() {
        YieldLines y = of("*1~3;1>2;8|9;*(1~999)=0;");
        int[][] want = {{3, 5, 0, 3}, {0, 2, 0, NONE}, {1, 2, 0, 8}, {0, 1000, 1, NONE}};
        for (int k = 0; k < want.length; k++) {
            for (int what = 0; what < 4; what++) {
                Check.due("did(" + k + ", " + what + ")", y.did(k, what), want[k][what]);
            }
        }
        Check.due("did(4, 0)", y.did(4, 0), BAD);
        Check.due("did(-1, 0)", y.did(-1, 0), BAD);
        Check.due("did(0, 4)", y.did(0, 4), BAD);
        Check.due("did(0, -1)", y.did(0, -1), BAD);
        Check.due("told(0)", y.told(0), 4);
    }

    private static void ends() {
        YieldLines y = of("a:5;*b:1~3;*c^1~3;d^9;");
        y.value(2, -4);
        Check.due("ends(0)", y.ends(0), 5);
        Check.due("ends(1)", y.ends(1), 3);
        Check.due("ends(2)", y.ends(2), -4);
        Check.due("ends(3)", y.ends(3), 9);
        Check.due("ends(4)", y.ends(4), BAD);
        Check.due("ends(-1)", y.ends(-1), BAD);
        Check.due("told(0)", y.told(0), 2);
    }

    private static void alone() {
        YieldLines y = of("a:5;(a+1)|2|3;*1~99;*5|(1~999)=0;1>2;*!(a=0);");
        Check.due("as EVERY, from values to begin with", y.alone(1, 0), 1);
        Check.due("alone(1, 2)", y.alone(1, 2), 3);
        Check.due("alone(1, 3)", y.alone(1, 3), NONE);
        Check.due("alone(2, 29)", y.alone(2, 29), 30);
        Check.due("alone(2, 30)", y.alone(2, 30), NONE);
        Check.due("alone(2, max)", y.alone(2, Integer.MAX_VALUE), NONE);
        Check.due("alone(3, 0)", y.alone(3, 0), 5);
        Check.due("cut", y.alone(3, 1), NONE);
        Check.due("none", y.alone(4, 0), NONE);
        Check.due("alone(5, 0)", y.alone(5, 0), NONE);
        Check.due("NONE is no refusal", y.told(0), 0);
        Check.due("the run's ends are not touched", y.ends(0), 5);
        y.alone(1, 0);
        Check.due("the run's ends are not touched", y.ends(0), 5);
        Check.due("alone(6, 0)", y.alone(6, 0), BAD);
        Check.due("alone(-1, 0)", y.alone(-1, 0), BAD);
        Check.due("alone(0, -1)", y.alone(0, -1), BAD);
        Check.due("told(0)", y.told(0), 3);
        y.value(0, 8);
        Check.due("alone behind value", y.alone(1, 0), 9);
    }

    private static void back() {
        YieldLines y = new YieldLines();
        Check.due("back()", y.back(), NO);
        for (int v = 1; v <= 6; v++) {
            y.value(0, v);
        }
        Check.due("five at most", y.told(6), 5);
        for (int v = 5; v >= 1; v--) {
            Check.due("back()", y.back(), v - 1);
            Check.due("value", y.ends(0), v);
        }
        Check.due("back()", y.back(), NO);
        Check.due("told(1)", y.told(1), 2);
        y = of("1;2;3;");
        y.value(1, 4);
        y.drops(0);
        read(y, "b;");
        typed(y, "c;d;");
        Check.due("back()", y.back(), 3);
        Check.same("said", allSaid(y), "2 3");
        Check.due("the text stays", y.told(3), 4);
        Check.due("back()", y.back(), 2);
        Check.same("said", allSaid(y), "1 2 3");
        Check.due("ends(1)", y.ends(1), 4);
        Check.due("back()", y.back(), 1);
        Check.due("ends(1)", y.ends(1), 0);
        Check.due("told(4)", y.told(4), 3);
        Check.due("back()", y.back(), 0);
        Check.due("told(4)", y.told(4), 0);
        Check.due("reads", y.reads(), 2);
        Check.due("a state behind going back", y.told(6), 1);
        y.value(0, 1000000);
        y.drops(9);
        Check.due("no state by a refused call", y.told(6), 1);
    }

    private static void told() {
        YieldLines y = of("1+2;*a:4;");
        y.back();
        y.reads();
        Check.due("told(7)", y.told(7), BAD);
        Check.due("told(-1)", y.told(-1), BAD);
        y.back();
        y.back();
        y.reads();
        while (y.told(3) < 150) {
            y.type(' ');
        }
        y.type(' ');
        int[] want = {2, 1, 1, 150, 2, 5, 1};
        for (int what = 0; what < 7; what++) {
            Check.due("told(" + what + ")", y.told(what), want[what]);
        }
    }

    private static void digest() {
        YieldLines y = of("*2|a;b:(1>2);");
        y.value(0, -7);
        y.told(9);
        long h = 2467;
        int[] row = {1, 0, 0, 13, 2, 7, 2, -7, 0, 0, 0,
            1, 3, 1, 0, 2, 4, 0, -7,
            0, 4, 2, 2, 0, 2, 0, NONE,
            2, 1, 0, 6, 2, -7, -7, 0, 0, 0};
        for (int v : row) {
            h = 31 * h + v;
        }
        Check.due("digest()", y.digest(), h);
        Check.due("digest() again", y.digest(), h);
        h = 2467;
        for (int n = 0; n < 7 + 4 + 4 + 4; n++) {
            h = 31 * h;
        }
        Check.due("digest() of a new object", new YieldLines().digest(), h);
    }
}
