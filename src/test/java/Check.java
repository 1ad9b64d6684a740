import java.io.IOException;
import java.io.UncheckedIOException;
import java.nio.file.Files;
import java.nio.file.Path;
import java.util.Objects;

/** Counts what is not as due, tells it, and ends the program with exit code 1 if there was any. */
final class Check {
    private static final Path DOCUMENT = Path.of("../shared/DOC.md");
    private static final int MOST_TOLD = 40;
    private static int done = 0;
    private static int wrong = 0;
    private static String sentence = "";
    private static int doneBeforeSentence = -1;
    private static int sentences = 0;

    private Check() {
    }

    static void due(String what, long got, long want) {
        same(what, got, want);
    }

    static void same(String what, Object got, Object want) {
        done++;
        if (!Objects.equals(got, want)) {
            wrong(what + " answered " + got + ", due is " + want);
        }
    }

    /**
     * What is checked from here on tests these words of the document. They must stand in it, so that
     * a test of what it no longer says is seen; and each must be tested by something.
     */
    static void sentence(String words) {
        endSentence();
        sentence = words;
        sentences++;
        if (!asOneRow(document()).contains(asOneRow(words))) {
            wrong("the document does not say so");
        }
    }

    static boolean anyWrong() {
        return wrong > 0;
    }

    static void end() {
        endSentence();
        String of = sentences == 0 ? "" : " of " + sentences + " sentences";
        System.out.println(wrong == 0 ? done + " checks" + of + ", all as due"
                : wrong + " of " + done + " checks are not as due");
        if (wrong != 0) {
            System.exit(1);
        }
    }

    private static void endSentence() {
        if (done == doneBeforeSentence) {
            wrong("nothing is checked");
        }
        doneBeforeSentence = done;
    }

    private static void wrong(String how) {
        wrong++;
        if (wrong <= MOST_TOLD) {
            System.out.println(sentence.isEmpty() ? how : "[" + sentence + "] " + how);
        }
    }

    private static String asOneRow(String text) {
        return text.replaceAll("\\s+", " ");
    }

    private static String document() {
        try {
            return Files.readString(DOCUMENT);
        } catch (IOException e) {
            throw new UncheckedIOException(e);
        }
    }
}
