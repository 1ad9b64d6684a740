import java.util.Objects;

/** Counts what is not as due, tells it, and ends the program with exit code 1 if there was any. */
final class Check {
    private static final int MOST_TOLD = 40;
    private static int done = 0;
    private static int wrong = 0;

    private Check() {
    }

    static void due(String what, long got, long want) {
        same(what, got, want);
    }

    static void same(String what, Object got, Object want) {
        done++;
        if (!Objects.equals(got, want)) {
            wrong++;
            if (wrong <= MOST_TOLD) {
                System.out.println(what + " answered " + got + ", due is " + want);
            }
        }
    }

    static boolean anyWrong() {
        return wrong > 0;
    }

    static void end() {
        System.out.println(wrong == 0 ? done + " checks, all as due" : wrong + " of " + done + " checks are not as due");
        if (wrong != 0) {
            System.exit(1);
        }
    }
}
