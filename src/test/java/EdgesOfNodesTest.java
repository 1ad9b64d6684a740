/** The edges of NAMES, of NUMBERS and of what each NODE YIELDS, sentence by sentence. */
public final class EdgesOfNodesTest extends Telling {
    private EdgesOfNodesTest() {
    }

    public static void main(String[] args) {
        names();
        numbers();
        rows();
        numberNode();
        nameNode();
        either();
        both();
        range();
        sumsWithinNumbers();
        sumsBeyondNumbers();
        sumsOfOthersGoOn();
        comparisons();
        firstFew();
        firstFewAskNoFurther();
        whetherNone();
        whetherNoneAsksNoFurther();
        takes();
        givesBack();
        givesBackTheLast();
        givesBackFirst();
        Check.end();
    }

    private static void names() {
        Check.sentence("3), each with a VALUE.");
        Check.same("four names", allSaid(with("a;b;c;d;", 1, 2, 3, 4)), "1 2 3 4");
        Check.same("four values at the end", allEnds(of("a:1;b:2;c:3;d:4;")), "1 2 3 4");
        YieldLines y = new YieldLines();
        Check.due("value of the first", y.value(0, 1), 0);
        Check.due("value of the last", y.value(3, 4), 0);
        Check.due("value below the first", y.value(-1, 1), BAD);
        Check.due("value above the last", y.value(4, 1), BAD);
        Check.due("ends below the first", y.ends(-1), BAD);
        Check.due("ends above the last", y.ends(4), BAD);
        fault("`;", 0);
        fault("e;", 0);
    }

    private static void numbers() {
        Check.sentence("NUMBERS are from -999999 to 999999.");
        YieldLines y = with("a;b;a-0;b+0;*a+1;*b-1;", 999999, -999999);
        Check.same("the greatest and the least", allSaid(y), "999999 -999999 999999 -999999");
        Check.due("one greater as a value", y.value(2, 1000000), BAD);
        Check.due("one less as a value", y.value(2, -1000000), BAD);
        Check.due("the greatest as a value", y.value(2, 999999), 0);
        Check.due("the least as a value", y.value(2, -999999), 999999);
        Check.due("it was the least", y.value(2, 0), -999999);
    }

    private static void rows() {
        Check.sentence("An EXPRESSION YIELDS a row of RESULTS, NUMBERS, one by one; VALUES of NAMES may become "
                + "others on the way; each RESULT is asked for, then it goes on from there.");
        says("*(a:1|2)&(a|a+10);", "1 11 2 12");
        says("*(1~3)|(7~8);", "1 2 3 7 8");
        says("*(a:1~2)+(b:10|20)+a+b;", "22 42 24 44");
        Check.due("an empty row", of("*(1>2);").run(0), 0);
    }

    private static void numberNode() {
        Check.sentence("a NUMBER 0 .. 999: itself, once.");
        saysAndWorks("*0;", "0", 1);
        saysAndWorks("*999;", "999", 1);
        saysAndWorks("*000;*007;*010;", "0 7 10", 3);
        fault("1000;", 3);
        saysAndWorks("*(1|1)&5;", "5 5", 8);
    }

    private static void nameNode() {
        Check.sentence("A NAME: its VALUE as it is when it is asked for, once.");
        saysAndWorks("*a;", "0", 1);
        says("*a|(a:5)|a;", "0 5 5");
        says("*a+(a:5);*b+(b:5)+b;", "5 10");
        says("*(a|b)&(a:b:7);", "7 7");
        Check.same("edges of a value", allSaid(with("*a;*b;", 999999, -999999)), "999999 -999999");
    }

    private static void either() {
        Check.sentence("A | B: all that A YIELDS, then all that B does.");
        saysAndWorks("*(1|2)|(3|4);", "1 2 3 4", 12);
        saysAndWorks("*(1>2)|3;", "3", 4);
        saysAndWorks("*3|(1>2);", "3", 4);
        saysAndWorks("*(1>2)|(3>4);", "", 4);
        saysAndEnds("1|(a:5);", "1", "0 0 0 0");
        saysAndEnds("(1>2)|(a:5);", "5", "5 0 0 0");
        says("*(a:1~3)|a;", "1 2 3 3");
        says("*(1|2)&(3|4);", "3 4 3 4");
    }

    private static void both() {
        Check.sentence("A & B: for each RESULT of A all that B YIELDS then (B anew each time).");
        saysAndWorks("*(1>2)&(a:5);", "", 2);
        Check.due("B is not asked where A has none", of("*(1>2)&(a:5);").ends(0), 0);
        saysAndWorks("*(1|2)&(1>2);", "", 4 + 4);
        says("*(a:1~4)&a=3;", "3");
        says("*(a:1~3)&(1~a);", "1 1 2 1 2 3");
        says("*(1|2)&((3|4)\\1);", "3 3");
        says("*(1|2)&!(1>2);", "0 0");
        says("*(1|2)&(3&4);", "4 4");
        says("*(1|2)&(b:b+1);", "1 2");
    }

    private static void range() {
        Check.sentence("A ~ B: for each RESULT x of A, for each RESULT y of B (anew each time): x, x and 1, .., y "
                + "(none, if x is above y).");
        saysAndWorks("*3~2;", "", 2);
        saysAndWorks("*3~3;", "3", 3);
        saysAndWorks("*3~4;", "3 4", 4);
        saysAndWorks("*0~0;", "0", 3);
        saysAndWorks("*999~0;", "", 2);
        says("*(1|2|3)~2;", "1 2 2");
        says("*2~(1|2|3);", "2 2 3");
        says("*(1|2)~(1|2);", "1 1 2 2");
        saysAndWorks("*(1>2)~(a:1);", "", 2);
        saysAndWorks("*1~(1>2);", "", 3);
        says("*(0-2)~(0-1);*(0-1)~(0-2);*(0-1)~1;", "-2 -1 -1 0 1");
        Check.same("up to the greatest", allSaid(with("*a~b;", 999998, 999999)), "999998 999999");
        Check.same("the greatest alone", allSaid(with("*a~a;", 999999)), "999999");
        Check.same("from the least", allSaid(with("*(a~b)\\2;", -999999, 999999)), "-999999 -999998");
        Check.same("the least alone", allSaid(with("*a~a;", -999999)), "-999999");
        YieldLines y = with("*a~b;", 999999, -999999);
        Check.due("from the greatest down there is none", y.run(0), 0);
        Check.due("and no work is done for it", y.run(3), 2);
    }

    private static void sumsWithinNumbers() {
        Check.sentence("A + B, A - B, A * B: for each x of A, for each y of B (anew): that of both, if it is a NUMBER "
                + "as told");
        says("*(1|2)+(10|20);*(1|2)-(10|20);*(1|2)*(10|20);", "11 21 12 22 -9 -19 -8 -18 10 20 20 40");
        Check.same("sums at the edge", allSaid(with("*a+1;*a+b;*b-1;*b+a;", 999998, -999998)),
                "999999 0 -999999 0");
        Check.same("differences at the edge", allSaid(with("*0-a;*0-b;*a-a;*1-c;", 999999, -999999, -999998)),
                "-999999 999999 0 999999");
        Check.same("products at the edge", allSaid(with("*a*999;*b*999;*c*1;*c*(0-1);*c*0;", 1001, -1001, 999999)),
                "999999 -999999 999999 -999999 0");
        saysAndWorks("*(1>2)+(a:1);*(1>2)-(a:1);*(1>2)*(a:1);", "", 6);
        saysAndWorks("*1+(1>2);*1-(1>2);*1*(1>2);", "", 9);
    }

    private static void sumsBeyondNumbers() {
        Check.sentence("if it is a NUMBER as told (else nothing for these two).");
        String[] beyond = {"*a+1;", "*1+a;", "*a+a;", "*b-1;", "*b+b;", "*b-a;", "*a-b;", "*a*2;", "*a*a;", "*a*b;",
            "*b*b;", "*c*c;", "*c*(0-c);"};
        for (String text : beyond) {
            YieldLines y = with(text, 999999, -999999, 1000);
            Check.due("results of '" + text + "'", y.run(0), 0);
            Check.due("cuts of '" + text + "'", y.run(2), 0);
        }
        // Products that would be NUMBERS again if they wrapped around at 32 bits.
        Check.due("2 to the 32nd", with("*a*a;", 65536).run(0), 0);
        Check.due("2 to the 32nd and more", with("*a*b;", 65536, 65537).run(0), 0);
        Check.due("less than - 2 to the 32nd", with("*a*b;", -65536, 65537).run(0), 0);
        Check.due("what is beyond can not be named either", with("*b:a+1;", 999999).ends(1), 0);
    }

    private static void sumsOfOthersGoOn() {
        Check.sentence("(else nothing for these two)");
        Check.same("+", allSaid(with("*(a|1)+(1|0);", 999999)), "999999 2 1");
        Check.same("-", allSaid(with("*(a|1)-(1|0);", -999999)), "-999999 0 1");
        Check.same("*", allSaid(with("*(a|1)*(2|1);", 999999)), "999999 2 1");
        Check.due("work", with("*(a|1)+(1|0);", 999999).run(3), 4 + 8 + 3);
    }

    private static void comparisons() {
        Check.sentence("A < B, A > B, A = B: for each x of A, for each y of B (anew): y, if x is less, greater, the "
                + "same (else nothing).");
        saysAndWorks("*1<2;", "2", 3);
        saysAndWorks("*1<1;", "", 2);
        saysAndWorks("*2<1;", "", 2);
        saysAndWorks("*2>1;", "1", 3);
        saysAndWorks("*1>1;", "", 2);
        saysAndWorks("*1>2;", "", 2);
        saysAndWorks("*1=1;", "1", 3);
        saysAndWorks("*1=2;", "", 2);
        saysAndWorks("*2=1;", "", 2);
        says("*(1|2|3)<(2|3);", "2 3 3");
        says("*(1|2|3)>(2|1);", "1 2 1");
        says("*(1|2|3)=(3|1|1);", "1 1 3");
        saysAndWorks("*(1>2)<(a:1);*(1>2)>(a:1);*(1>2)=(a:1);", "", 6);
        Check.same("the least and the greatest", allSaid(with("*a<b;*a>b;*a=b;*b<a;*b>a;*b=a;", -999999, 999999)),
                "999999 -999999");
    }

    private static void firstFew() {
        Check.sentence("A \\ n: the first n (0 .. 9) that A YIELDS");
        saysAndWorks("*(1~9)\\0;", "", 0);
        saysAndWorks("*(1~9)\\1;", "1", 4);
        saysAndWorks("*(1~10)\\9;", "1 2 3 4 5 6 7 8 9", 20);
        saysAndWorks("*(1~9)\\9;", "1 2 3 4 5 6 7 8 9", 20);
        saysAndWorks("*(1~8)\\9;", "1 2 3 4 5 6 7 8", 18);
        saysAndWorks("*(1>2)\\9;", "", 2);
        saysAndWorks("*(1>2)\\0;", "", 0);
        saysAndWorks("*(1~9)\\0\\9;*(1~9)\\9\\0;", "", 0);
        saysAndWorks("*(1~9)\\2\\9;", "1 2", 8);
        fault("1\\10;", 3);
    }

    private static void firstFewAskNoFurther() {
        Check.sentence("(0 .. 9) that A YIELDS (A is not asked further).");
        saysAndEnds("*(a:5)\\0;", "", "0 0 0 0");
        saysAndEnds("*(1|(a:5))\\1;", "1", "0 0 0 0");
        saysAndEnds("*(1|(a:5))\\2;", "1 5", "5 0 0 0");
        saysAndEnds("*(a^1~9)\\2;", "1 2", "2 0 0 0");
        saysAndEnds("*(a^1~2)\\2;", "1 2", "2 0 0 0");
        saysAndEnds("*(a^1~2)\\3;", "1 2", "0 0 0 0");
        does("*(5|(1~500)=0)\\1;", 1, 3, 0);
        does("*(5|(1~500)=0)\\2;", 1, 1000, 1);
        does("*((1~500)=0)\\0;", 0, 0, 0);
    }

    private static void whetherNone() {
        Check.sentence("! A: 0, once, if A YIELDS nothing; nothing, if A YIELDS a RESULT");
        saysAndWorks("*!(1>2);", "0", 3);
        saysAndWorks("*!1;", "", 1);
        saysAndWorks("*!0;", "", 1);
        saysAndWorks("*!(1\\0);", "0", 1);
        saysAndWorks("*!!1;", "0", 2);
        saysAndWorks("*!!(1\\0);", "", 1);
        saysAndWorks("*(1|2)&!(1>2);", "0 0", 12);
        saysAndEnds("*!((a:5)&1>2);", "0", "5 0 0 0");
        saysAndEnds("*!((a^5)&1>2);", "0", "0 0 0 0");
    }

    private static void whetherNoneAsksNoFurther() {
        Check.sentence("nothing, if A YIELDS a RESULT (A is not asked further).");
        saysAndEnds("*!(1|(a:5));", "", "0 0 0 0");
        saysAndEnds("*!(a:1~9);", "", "1 0 0 0");
        saysAndEnds("*!(a^1~9);", "", "1 0 0 0");
        saysAndEnds("*!(a^5);", "", "5 0 0 0");
        saysAndEnds("*!!(a^5);", "0", "5 0 0 0");
        does("*!(5|(1~500)=0);", 0, 2, 0);
    }

    private static void takes() {
        Check.sentence("x : A (x a NAME): for each RESULT of A: VALUE of x becomes it; that is YIELDED.");
        saysAndEnds("*a:1~3;", "1 2 3", "3 0 0 0");
        saysAndEnds("a:1~3;", "1", "1 0 0 0");
        saysAndEnds("*d:5;", "5", "0 0 0 5");
        saysAndEnds("*(a:1|2)&(1>2);", "", "2 0 0 0");
        says("*a:(5|a+1);", "5 6");
        YieldLines none = with("*a:(1>2);a;", 7);
        Check.same("A has none: the VALUE stays", allSaid(none), "7");
        YieldLines edges = with("*c:a;*d:b;", 999999, -999999);
        Check.same("the greatest and the least", allEnds(edges), "999999 -999999 999999 -999999");
        saysAndEnds("*a:a:a:4;", "4", "4 0 0 0");
        saysAndWorks("*a:7;", "7", 2);
    }

    private static void givesBack() {
        Check.sentence("x ^ A: likewise, but when it is asked for the next one, VALUE of x becomes first what it was "
                + "ahead of its last becoming so (here), then A is asked on.");
        Check.same("asked on to the end", allSaid(with("*a^1~3;a;", 7)), "1 2 3 7");
        Check.same("not asked on", allSaid(with("a^1~3;a;", 7)), "1 1");
        Check.same("A has none", allSaid(with("*a^(1>2);a;", 7)), "7");
        Check.same("seen while it stands", allSaid(with("*(a^1~3)&a;a;", 7)), "1 2 3 7");
        Check.same("both names", allSaid(with("*a^b^5;a;b;", 7, 8)), "5 7 8");
        Check.same("the edges", allSaid(with("*a^5;a;*b^5;b;", 999999, -999999)), "5 999999 5 -999999");
        saysAndWorks("*a^7;", "7", 2);
    }

    private static void givesBackTheLast() {
        Check.sentence("what it was ahead of its last becoming so (here)");
        // Between two RESULTS another takes the NAME: it is given back as it was, not as it became.
        Check.same("taken by another", allSaid(with("*(a^1|2)&(a:9);a;", 7)), "9 9 7");
        Check.same("taken within A", allSaid(with("*a^(a:3)|4;a;", 7)), "3 4 3");
        Check.same("the last, not the first", allSaid(with("*a^(a:3)|(a:4);a;", 7)), "3 4 4");
        Check.same("twice", allSaid(with("*a^a^1;a;", 7)), "1 7");
        Check.same("anew, as it is then", allSaid(with("*(a:1~2)&(a^5);a;", 7)), "5 5 2");
    }

    private static void givesBackFirst() {
        Check.sentence("becomes first what it was ahead of its last becoming so (here), then A is asked on.");
        Check.same("A sees it given back", allSaid(with("*a^(5|a+1);", 7)), "5 8");
        Check.same("A sees it given back each time", allSaid(with("*a^(a+1|a+2|a+3);a;", 7)), "8 9 10 7");
    }
}
