/** The words in which the tests tell what they do with an object and what is due. */
abstract class Telling {
    static final int NONE = -1999999, BAD = -2000000, NO = -2000001, FULL = -2000002;

    static void typed(YieldLines y, String text) {
        y.clear();
        for (int i = 0; i < text.length(); i++) {
            y.type(text.charAt(i));
        }
    }

    static int read(YieldLines y, String text) {
        typed(y, text);
        return y.reads();
    }

    static int read(String text) {
        return read(new YieldLines(), text);
    }

    static YieldLines of(String text) {
        YieldLines y = new YieldLines();
        int lines = read(y, text);
        Check.same("reading '" + text + "' is no fault", lines >= 0, true);
        return y;
    }

    /** The PROGRAM with VALUES to begin with, of a on. */
    static YieldLines with(String text, int... values) {
        YieldLines y = of(text);
        for (int x = 0; x < values.length; x++) {
            y.value(x, values[x]);
        }
        return y;
    }

    /** The same object reads a good text behind the bad one: nothing of the bad one may be left over. */
    static void fault(String text, int place) {
        YieldLines y = new YieldLines();
        Check.due("reads '" + text + "'", read(y, text), -10 - place);
        Check.due("reads on behind '" + text + "'", read(y, "7;(b:1)+2;*!c;"), 3);
        Check.same("says behind '" + text + "'", allSaid(y), "7 3");
        Check.due("nodes behind '" + text + "'", y.told(5), 7);
        for (int what = 0; what < 4; what++) {
            Check.due("line(0) behind '" + text + "'", y.line(0, what), what == 1 ? 1 : 0);
            Check.due("line(1) behind '" + text + "'", y.line(1, what), new int[] {0, 4, 2, 2}[what]);
            Check.due("line(2) behind '" + text + "'", y.line(2, what), new int[] {1, 2, 4, 0}[what]);
        }
        Check.due("another fault behind '" + text + "'", read(y, "1;(1)12;"), -15);
    }

    static void reads(String text, int lines) {
        Check.due("reads '" + text + "'", read(text), lines);
    }

    static String allSaid(YieldLines y) {
        StringBuilder all = new StringBuilder();
        int count = y.run(0);
        for (int i = 0; i < count; i++) {
            all.append(i == 0 ? "" : " ").append(y.said(i));
        }
        return all.toString();
    }

    static String allEnds(YieldLines y) {
        return y.ends(0) + " " + y.ends(1) + " " + y.ends(2) + " " + y.ends(3);
    }

    static void says(String text, String want) {
        Check.same("said by '" + text + "'", allSaid(of(text)), want);
    }

    static void saysAndWorks(String text, String want, int work) {
        says(text, want);
        Check.due("work of '" + text + "'", of(text).run(3), work);
    }

    static void saysAndEnds(String text, String want, String ends) {
        says(text, want);
        Check.same("ends of '" + text + "'", allEnds(of(text)), ends);
    }

    /** Of the first LINE: its RESULTS, its WORK, whether it is CUT. */
    static void does(String text, int said, int work, int cut) {
        YieldLines y = of(text);
        Check.due("results of '" + text + "'", y.did(0, 0), said);
        Check.due("work of '" + text + "'", y.did(0, 1), work);
        Check.due("'" + text + "' is cut", y.did(0, 2), cut);
    }

    static String times(String part, int n) {
        return part.repeat(n);
    }
}
