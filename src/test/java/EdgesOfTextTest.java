/** The edges of THE TEXT and of its FAULT, sentence by sentence. */
public final class EdgesOfTextTest extends Telling {
    private static final String BETWEEN = "&|<>=~+-*";
    /** 59 NODES in 59 bytes. */
    private static final String NODES_59 = "1" + times("+1", 29);

    private EdgesOfTextTest() {
    }

    public static void main(String[] args) {
        mostBytes();
        endedLines();
        onceOrEvery();
        targets();
        levels();
        missingParts();
        fromTheLeft();
        lasts();
        units();
        nots();
        brackets();
        blanks();
        blanksWithinNumbers();
        firstThatCanNotStand();
        eachByte();
        fourthFigure();
        targetsBehindNoName();
        ninthLine();
        sixtyNodes();
        whereThe61stStands();
        oneNodeTogether();
        tenthOpen();
        endsTooEarly();
        nothingToRead();
        Check.end();
    }

    private static void mostBytes() {
        Check.sentence("THE TEXT (150 bytes at most) is a PROGRAM:");
        YieldLines y = new YieldLines();
        Check.due("150 bytes", read(y, "7" + times(" ", 148) + ";"), 1);
        Check.due("bytes", y.told(3), 150);
        Check.due("the 151st", y.type(';'), FULL);
        Check.due("reads as before", y.reads(), 1);
        Check.due("says", y.said(0), 7);
        Check.due("all 150 are read", read("7;" + times(" ", 146) + "8;"), 2);
        fault("7" + times(" ", 148) + "+", 150);
        fault("7;" + times(" ", 147) + ";", 149);
    }

    private static void endedLines() {
        Check.sentence("LINES, each ended by ; :");
        reads("1;", 1);
        reads("1;2;", 2);
        reads("1;2;3;4;5;6;7;8;", 8);
        fault("1;2", 3);
        fault("1", 1);
        fault(";", 0);
        fault("1;;", 2);
        fault("1 2;", 2);
        fault("(1;2);", 2);
    }

    private static void onceOrEvery() {
        Check.sentence("an E (ONCE), or * and an E (EVERY).");
        YieldLines y = of("1|2;*1|2; * 3;");
        Check.same("said", allSaid(y), "1 1 2 3");
        Check.due("ONCE", y.line(0, 0), 0);
        Check.due("EVERY", y.line(1, 0), 1);
        Check.due("EVERY behind a blank", y.line(2, 0), 1);
        fault("*;", 1);
        fault("*", 1);
        fault("**1;", 1);
        fault("(*1);", 1);
        fault("a:*1;", 2);
        says("*2*3;", "6");
    }

    private static void targets() {
        Check.sentence("E: an AND; or an AND that is just a NAME (in ( ), too), : or ^, and an E.");
        saysAndEnds("a:5;b^6;", "5 6", "5 6 0 0");
        saysAndEnds("(a):5;((b))^6;(((c))):7;", "5 6 7", "5 6 7 0");
        saysAndEnds("a:b^c:d^4;", "4", "4 4 4 4");
        saysAndEnds("a:(b:(c:3));", "3", "3 3 3 0");
        saysAndEnds("a:1&2|3+4*5\\1;", "2", "2 0 0 0");
        saysAndEnds("!(a:1)|(b:2);", "2", "1 2 0 0");
        reads(times("(", 9) + "a" + times(")", 9) + ":1;", 1);
        fault("a:;", 2);
        fault("a:", 2);
        fault("a^)", 2);
        fault("(a:)", 3);
        fault("(a):", 4);
        fault("a::1;", 2);
        fault("a:^1;", 2);
    }

    /** Each of two that differ by one level, in both orders: the looser one's parts are whole. */
    private static void levels() {
        Check.sentence("AND: ALTS with & between; ALT: RELS with | between; REL: RANGES with <, > or = between; "
                + "RANGE: SUMS with ~ between; SUM: PRODUCTS with + or - between; PRODUCT: LASTS with * between;");
        says("*1|2&3|4;", "3 4 3 4");
        says("*1&2|3;*1|2&3;", "2 3 3 3");
        says("*1|2<3;*2<3|1;", "1 3 3 1");
        says("*1|3>2;*3>2|1;*1|2=2;*2=2|1;", "1 2 2 1 1 2 2 1");
        says("*2<1~3;*1~3<3;*2>1~3;*3>1~2;*2=1~3;", "3 3 3 1 1 2 2");
        says("*1~3>2;*1~3=2;", "2 2");
        says("*1+1~1+2;*3-2~3-1;", "2 3 1 2");
        says("1+2*3;2*3+1;7-2*3;2*3-1;", "7 7 1 5");
        says("*2*(1|2)\\1;*(1|2)\\1*2;", "2 2");
        fault("1\\1*;", 4);
    }

    private static void missingParts() {
        Check.sentence("AND: ALTS with & between;");
        for (char sign : BETWEEN.toCharArray()) {
            reads("1" + sign + "1;", 1);
            fault("1" + sign + ";", 2);
            fault("1" + sign, 2);
            fault("(1" + sign + ")", 3);
            fault("1" + sign + sign + "1;", 2);
            fault("1" + sign + "+1;", 2);
            fault("1" + sign + "*1;", 2);
            fault("(" + sign + "1);", 1);
            fault("!" + sign + "1;", 1);
            // Ahead of a LINE a * stands, but not ahead of a second one.
            fault(sign == '*' ? "**1;" : sign + "1;", sign == '*' ? 1 : 0);
        }
    }

    private static void fromTheLeft() {
        Check.sentence("All between go from the left.");
        says("9-3-2;9-3+2;9+3-2;", "4 8 10");
        says("*1~2~3;", "1 2 3 2 3");
        says("*1<2<3;*3>2>1;*1<3>2;*2=2<3;", "3 1 2 3");
        saysAndWorks("*1|2|3;", "1 2 3", 8);
        saysAndWorks("*1|(2|3);", "1 2 3", 8);
        saysAndWorks("*(1|2|3)&4;", "4 4 4", 14);
        saysAndWorks("*1|2|3|4;", "1 2 3 4", 4 + 2 + 3 + 4);
        saysAndWorks("*4|(3|(2|1));", "4 3 2 1", 4 + 2 + 3 + 4);
        // From the left, the first | YIELDS 1 and 2, the next one these and 3.
        saysAndWorks("*(1|2|3)\\1;", "1", 4);
        saysAndWorks("*(1|(2|3))\\1;", "1", 3);
        saysAndWorks("*1&2&(3\\0);", "", 3);
        saysAndWorks("*1&(2&(3\\0));", "", 2);
        // From the left, the first product is no NUMBER; from the right it would be 0.
        Check.same("a product too large ahead", allSaid(with("*a*a*0;", 2000)), "");
        Check.same("a product too large behind", allSaid(with("*0*a*a;", 2000)), "0");
    }

    private static void lasts() {
        Check.sentence("LAST: a UNIT, then \\ and a figure, any number of times;");
        says("*1;*1\\1;*(1~9)\\3;*(1~9)\\3\\2\\1;", "1 1 1 2 3 1");
        says("*1" + times("\\9", 59) + ";", "1");
        says("*(1~9) \\ 2 \\ 1 ;", "1");
        says("*!(1\\0)\\1;*!1\\0;", "0");
        // A \ takes no more than the UNIT ahead of it, but all of that.
        says("*(1|2)*3\\1;", "3 6");
        says("*(1|2)+3\\1;", "4 5");
        says("*!(1)\\0;*!!(1)\\0;*!(1>2)\\0;", "");
        fault("\\1;", 0);
        fault("1\\;", 2);
        fault("1\\", 2);
        fault("1\\\\1;", 2);
        fault("1\\a;", 2);
        fault("1\\(1);", 2);
        fault("1\\!1;", 2);
        fault("1\\11;", 3);
        fault("1\\1 1;", 4);
        fault("1\\1a;", 3);
        fault("1\\1(1);", 3);
    }

    private static void units() {
        Check.sentence("UNIT: 1 to 3 figures, a letter a to d, ! and a UNIT, or ( E ).");
        says("0;9;10;99;100;999;", "0 9 10 99 100 999");
        Check.same("letters", allSaid(with("a;b;c;d;", 1, 2, 3, 4)), "1 2 3 4");
        fault("1000;", 3);
        fault("`;", 0);
        fault("e;", 0);
        fault("A;", 0);
        fault("D;", 0);
        fault("ab;", 1);
        fault("a1;", 1);
        fault("1a;", 1);
        fault("1(1);", 1);
        fault("a(1);", 1);
        fault("1!1;", 1);
        fault("(1)1;", 3);
        fault("(1)a;", 3);
        fault("(1)(1);", 3);
        fault("(1)!1;", 3);
    }

    private static void nots() {
        Check.sentence("! and a UNIT,");
        says("*!(1>2);*!!1;*!!!(1>2);", "0 0 0");
        says("*!(1\\0);*!1\\0;", "0");
        says("*!(1\\0)+5;*!(1\\0)|5;*!1|5;", "5 0 5 5");
        says(times("!", 58) + "1;", "0");
        says(times("!", 59) + "1;", "");
        fault("!;", 1);
        fault("!", 1);
        fault("!)", 1);
        fault("!\\1;", 1);
        fault("!:1;", 1);
        fault("!a:1;", 2);
        fault("!(a):1;", 4);
    }

    private static void brackets() {
        Check.sentence("or ( E ).");
        says("(1);((2));(1+2)*3;", "1 2 9");
        says("*(a:1~2)&a;", "1 2");
        fault("();", 1);
        fault("(", 1);
        fault("(1", 2);
        fault("(1;", 2);
        fault("1);", 1);
        fault(");", 0);
        fault("(1));", 3);
        fault("((1);", 4);
    }

    private static void blanks() {
        Check.sentence("Blanks (32) may stand anywhere but within a number.");
        String close = "*((a):!(1>2)|b^12+3~4*(c)\\2&d);7;";
        StringBuilder wide = new StringBuilder("  ");
        for (int i = 0; i < close.length(); i++) {
            boolean isWithin = close.startsWith("12", i);
            wide.append(close.charAt(i)).append(isWithin ? "" : "  ");
        }
        fault(wide.toString(), wide.indexOf("^"));
        String good = close.replace('^', '+');
        YieldLines y = of(wide.toString().replace('^', '+'));
        Check.due("digest with blanks, but for the bytes", y.digest() - of(good).digest(),
                (wide.length() - good.length()) * power(31, 3 + 4 + 2 * 8 + 4 + y.run(0) + 4));
        for (int at = 0; at <= good.length(); at++) {
            String text = new StringBuilder(good).insert(at, ' ').toString();
            boolean isWithin = at > 0 && good.startsWith("12", at - 1);
            Check.due("reads '" + text + "'", read(text), isWithin ? -10 - (at + 1) : 2);
        }
        for (int other : new int[] {0, 9, 10, 11, 12, 13, 31, 33, 127}) {
            Check.due("no blank: " + other, read((char) other + "1;"), other == '!' ? 1 : -10);
            fault("1" + (char) other + ";", 1);
        }
    }

    /** 31 to the n, wrapped around as digest is. */
    private static long power(long base, int n) {
        return n == 0 ? 1 : base * power(base, n - 1);
    }

    private static void blanksWithinNumbers() {
        Check.sentence("anywhere but within a number.");
        fault("1 2;", 2);
        fault("12 3;", 3);
        fault("1 23;", 2);
        fault("123 4;", 4);
        fault("1  2;", 3);
        fault("a+1 2;", 4);
        reads("1 ;", 1);
        reads(" 123 ;", 1);
    }

    private static void firstThatCanNotStand() {
        Check.sentence("FAULT: the place of the first byte that can not stand there");
        fault("+", 0);
        fault("+)", 0);
        fault("1+)1234;e;", 2);
        fault("1;2;3;4;5;6;7;)", 14);
        fault(times(" ", 149) + ")", 149);
        fault("7" + times(" ", 148) + ")", 149);
        fault("*1+2*!(3~(a:!(b^1|2&*", 20);
    }

    /** Every byte at each kind of place; one that can stand there leaves a text that ends too early. */
    private static void eachByte() {
        Check.sentence("the first byte that can not stand there");
        String unit = "0123456789abcd!( ";
        String rest = BETWEEN + "\\; ";
        stand("", unit + "*");
        stand("1;", unit + "*");
        stand("*", unit);
        stand("(", unit);
        stand("!", unit);
        stand("a:", unit);
        stand("a^", unit);
        for (char sign : BETWEEN.toCharArray()) {
            stand("1" + sign, unit);
        }
        stand("1\\", "0123456789 ");
        stand("1", rest + "0123456789");
        stand("12", rest + "0123456789");
        stand("123", rest);
        stand("1 ", rest);
        stand("a", rest + ":^");
        stand("(a)", rest + ":^");
        stand("a:b", rest + ":^");
        stand("(1)", rest);
        stand("1\\1", rest);
        stand("a\\1", rest);
        stand("!a", rest);
        stand("a+a", rest);
        stand("(1", BETWEEN + "\\) 0123456789");
        stand("(a", BETWEEN + "\\) :^");
        stand("((a)", BETWEEN + "\\) :^");
        stand("((1)", BETWEEN + "\\) ");
        stand(times("(", 9), unit.replace("(", ""));
        stand(times("1;", 7), unit + "*");
        stand(times("1;", 8), " ");
    }

    private static void stand(String ahead, String these) {
        for (char c = 0; c < 128; c++) {
            int got = read(ahead + c);
            boolean isWhole = c == ';' || c == ' ' && (ahead.isEmpty() || ahead.endsWith(";"));
            if (these.indexOf(c) < 0) {
                Check.due("byte " + (int) c + " behind '" + ahead + "'", got, -10 - ahead.length());
            } else if (isWhole) {
                Check.same("byte " + (int) c + " behind '" + ahead + "' ends it", got >= 0, true);
            } else {
                Check.due("byte " + (int) c + " behind '" + ahead + "'", got, -11 - ahead.length());
            }
        }
    }

    private static void fourthFigure() {
        Check.sentence("(a fourth figure;");
        says("999;000;", "999 0");
        fault("1234;", 3);
        fault("0000;", 3);
        fault("12345;", 3);
        fault("1+9999;", 5);
        fault("1;0001;", 5);
        fault("(1000)", 4);
        fault("1\\1+1111;", 7);
    }

    private static void targetsBehindNoName() {
        Check.sentence("a : or ^ behind what is no NAME;");
        for (String sign : new String[] {":", "^"}) {
            fault(sign + "1;", 0);
            fault("1" + sign + "1;", 1);
            fault("(1)" + sign + "1;", 3);
            fault("a\\1" + sign + "1;", 3);
            fault("(a\\1)" + sign + "1;", 5);
            fault("!a" + sign + "1;", 2);
            fault("(!a)" + sign + "1;", 4);
            fault("(a:1)" + sign + "1;", 5);
            fault("a:1" + sign + "1;", 3);
            for (char between : BETWEEN.toCharArray()) {
                fault("a" + between + "b" + sign + "1;", 3);
                fault("a" + between + "(b)" + sign + "1;", 5);
                fault("(a" + between + "b)" + sign + "1;", 5);
                fault("c:a" + between + "b" + sign + "1;", 5);
                reads("a" + between + "(b" + sign + "1);", 1);
            }
        }
    }

    private static void ninthLine() {
        Check.sentence("the first byte of a 9th LINE;");
        reads(times("1;", 8), 8);
        reads(times("1;", 8) + "  ", 8);
        fault(times("1;", 8) + "1;", 16);
        fault(times("1;", 8) + "*1;", 16);
        fault(times("1;", 8) + "(1);", 16);
        fault(times("1;", 8) + "  a;", 18);
        fault(times("1;", 8) + "  *", 18);
        fault(times("1;", 8) + ";", 16);
        fault(times("1;", 9), 16);
        fault(times("*1 ;", 8) + "!", 32);
    }

    private static void sixtyNodes() {
        Check.sentence("one by which all LINES would have more than 60 NODES");
        YieldLines y = of(NODES_59 + "\\1;");
        Check.due("60 of one line", y.line(0, 1), 60);
        Check.due("60 of all lines", y.told(5), 60);
        Check.due("it says", y.said(0), 30);
        Check.due("60 of two lines", of(NODES_59 + ";7;").told(5), 60);
        Check.due("60 of eight lines", of(times("1+1+1+1;", 7) + "1+1+1+1+1+1;").told(5), 60);
        fault(times("1+1+1+1;", 7) + "1+1+1+1+1+1+1;", 67);
        fault(NODES_59 + "\\1+1;", 61);
        fault(NODES_59 + ";7;8;", 62);
        // Those of the program that stands do not count, nor those of a LINE that went.
        Check.due("60 again", read(y, NODES_59 + ";7;"), 2);
        Check.due("60 still", y.told(5), 60);
        y = of(NODES_59 + ";7;");
        y.drops(1);
        Check.due("nodes of those left", y.told(5), 59);
        Check.due("60 once more", read(y, NODES_59 + ";8;"), 2);
    }

    private static void whereThe61stStands() {
        Check.sentence("(at a number's first figure, a letter, !, \\, an operator;");
        String full = NODES_59 + ";7";
        reads(full + ";", 2);
        fault(full + ";123;", 62);
        fault(full + ";a;", 62);
        fault(full + ";a:1;", 62);
        fault(full + ";!1;", 62);
        fault(full + "\\1;", 61);
        for (char sign : BETWEEN.toCharArray()) {
            fault(full + sign + "1;", 61);
        }
        // What is no NODE can still stand, and the byte behind it can not.
        fault(full + ";(1);", 63);
        fault(full + ";*1;", 63);
        fault(full + "  +1;", 63);
        reads(NODES_59 + ";123;", 2);
        reads(NODES_59 + ";(((1)));", 2);
        reads(NODES_59 + ";*1;  ", 2);
        // A 60th that wants a 61st: it stands itself, the 61st does not.
        fault(NODES_59 + "+1;", 60);
        fault(NODES_59 + ";!1;", 61);
        fault(NODES_59 + ";a+1;", 61);
        fault(NODES_59 + ";a:1;", 62);
        fault(NODES_59 + ";1:1;", 61);
    }

    private static void oneNodeTogether() {
        Check.sentence("a NAME ahead of : or ^ and that : or ^ are one NODE together)");
        YieldLines y = of("a:1;(b)^1;a:b^c:1;(((a))):1;");
        int[] want = {2, 2, 4, 2};
        for (int k = 0; k < want.length; k++) {
            Check.due("nodes of line " + k, y.line(k, 1), want[k]);
        }
        reads("a:" + NODES_59 + ";", 1);
        reads("(a)^" + NODES_59 + ";", 1);
        fault("a:b:" + NODES_59 + ";", 62);
        says(times("a:", 59) + "1;", "1");
        says(times("a^", 59) + "7;", "7");
        fault(times("a:", 60) + "1;", 120);
        fault(times("a^", 61) + "1;", 120);
        // The NAME is the 60th, its : is no 61st.
        fault(NODES_59 + ";a:", 62);
        fault(NODES_59 + ";a^)", 62);
    }

    private static void tenthOpen() {
        Check.sentence("a 10th ( open);");
        reads(times("(", 9) + "1" + times(")", 9) + ";", 1);
        fault(times("(", 10) + "1" + times(")", 10) + ";", 9);
        fault("1+" + times("(", 10), 11);
        fault(times("( ", 10), 18);
        fault(times("!(", 10), 19);
        fault("1;" + times("(", 10), 11);
        // Those that are closed are not open.
        reads(times("(1)+", 11) + "1;", 1);
        reads(times("(", 9) + "1" + times(")", 9) + "+" + times("(", 9) + "1" + times(")", 9) + ";", 1);
        reads(times("(", 8) + "(1)+(1)" + times(")", 8) + ";", 1);
        fault(times("(", 8) + "(1)+((1)", 13);
    }

    private static void endsTooEarly() {
        Check.sentence("the TEXT's length, if it ends too early");
        for (String text : new String[] {"1", "1 ", "1;2", "*", " * ", "1+", "1\\", "!", "(", "(1", "(1)", "a:", "a^ ",
            "1;2;3;4;5;6;7;8", "123"}) {
            fault(text, text.length());
        }
        fault(times(" ", 149) + "1", 150);
        fault("1" + times(" ", 149), 150);
        fault(times("(", 9) + "1" + times(" ", 140), 150);
        fault(NODES_59 + "\\", 60);
    }

    private static void nothingToRead() {
        Check.sentence("(an empty one, one of blanks alone: 0 LINES, no FAULT).");
        reads("", 0);
        reads(" ", 0);
        reads(times(" ", 150), 0);
        YieldLines y = of("1;2;");
        Check.due("an empty text is a program", read(y, ""), 0);
        Check.due("of no lines", y.told(4), 0);
        Check.due("of no nodes", y.told(5), 0);
        Check.due("that says nothing", y.run(0), 0);
        Check.due("and leaves a state", y.told(6), 2);
        Check.due("to go back to", y.back(), 1);
        Check.due("with its lines", y.told(4), 2);
    }
}
