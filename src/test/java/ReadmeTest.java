import java.io.IOException;
import java.lang.reflect.Method;
import java.lang.reflect.Modifier;
import java.nio.file.Files;
import java.nio.file.Path;
import java.util.ArrayList;
import java.util.Arrays;
import java.util.List;
import java.util.regex.Matcher;
import java.util.regex.Pattern;
import java.util.stream.Stream;

/** What README.md shows of calls, texts and answers is as the class answers, and it leaves out no call. */
public final class ReadmeTest extends Telling {
    private static final Path PAGE = Path.of("README.md");
    private static final Path TESTS = Path.of("src/test/java");
    private static final Pattern CALL = Pattern.compile(
            "y\\.(\\w+)\\(([-0-9, ]*)\\); +// (-?\\d+)(?: \\((NONE|BAD|NO|FULL)\\))?:.*");
    private static final Pattern TEXT = Pattern.compile("String text = \"([^\"\\\\]*)\";");
    private static final Pattern SAYS = Pattern.compile("(.*;) +says (nothing|-?\\d+(?: -?\\d+)*)(?:  .*)?");
    private static final String TYPED = "y.type(text.charAt(i));";

    private YieldLines object;
    private String text = "";
    private int calls;

    private ReadmeTest() {
    }

    public static void main(String[] args) throws Exception {
        String page = Files.readString(PAGE);
        shownCalls(blocks(page, "java"));
        shownTexts(blocks(page, "text"));
        namesAllCalls(page);
        namesAllTests(page);
        Check.end();
    }

    private static List<String> blocks(String page, String kind) {
        List<String> blocks = new ArrayList<>();
        Matcher block = Pattern.compile("(?s)```" + kind + "\n(.*?)```").matcher(page);
        while (block.find()) {
            blocks.add(block.group(1));
        }
        Check.same("the page shows something in " + kind, blocks.isEmpty(), false);
        return blocks;
    }

    private static void shownCalls(List<String> blocks) throws Exception {
        for (String block : blocks) {
            ReadmeTest shown = new ReadmeTest();
            for (String row : block.split("\n")) {
                shown.goThrough(row.strip());
            }
            Check.same("calls are shown in" + block, shown.calls > 0, true);
        }
    }

    /** A row that this does not understand would be shown untested, and so is told. */
    private void goThrough(String row) throws Exception {
        Matcher told = TEXT.matcher(row);
        Matcher call = CALL.matcher(row);
        if (row.equals("YieldLines y = new YieldLines();")) {
            object = new YieldLines();
        } else if (told.matches()) {
            text = told.group(1);
        } else if (row.equals(TYPED)) {
            for (char c : text.toCharArray()) {
                object.type(c);
            }
        } else if (call.matches()) {
            answersAsShown(call, row);
        } else {
            boolean isOfLoop = row.startsWith("for (int i = 0; i < text.length(); i++) {") || row.equals("}");
            Check.same("'" + row + "' is a call with its answer", isOfLoop, true);
        }
    }

    private void answersAsShown(Matcher call, String row) throws Exception {
        int[] given = Stream.of(call.group(2).split(", *")).filter(s -> !s.isEmpty())
                .mapToInt(Integer::parseInt).toArray();
        Class<?>[] types = new Class<?>[given.length];
        Arrays.fill(types, int.class);
        Method method = YieldLines.class.getMethod(call.group(1), types);
        Number got = (Number) method.invoke(object, Arrays.stream(given).boxed().toArray());
        Check.due(row, got.longValue(), Long.parseLong(call.group(3)));
        if (call.group(4) != null) {
            Check.due(row, got.longValue(), YieldLines.class.getField(call.group(4)).getInt(null));
        }
        calls++;
    }

    private static void shownTexts(List<String> blocks) {
        for (String block : blocks) {
            for (String row : block.split("\n")) {
                Matcher says = SAYS.matcher(row);
                Check.same("'" + row + "' is a text with what it says", says.matches(), true);
                if (says.matches()) {
                    says(says.group(1), says.group(2).equals("nothing") ? "" : says.group(2));
                }
            }
        }
    }

    private static void namesAllCalls(String page) {
        for (Method method : YieldLines.class.getDeclaredMethods()) {
            if (Modifier.isPublic(method.getModifiers())) {
                boolean inTable = page.contains("\n| `" + method.getName() + "(");
                boolean shown = page.contains("y." + method.getName() + "(");
                Check.same("the table has " + method.getName(), inTable, true);
                Check.same("a call of " + method.getName() + " is shown", shown, true);
            }
        }
    }

    private static void namesAllTests(String page) throws IOException {
        Check.same("how to run the tests", page.contains("```sh\n.ci/run\n```"), true);
        try (Stream<Path> files = Files.list(TESTS)) {
            for (Path file : files.toList()) {
                String name = file.getFileName().toString().replace(".java", "");
                if (name.endsWith("Test")) {
                    Check.same("the page names " + name, page.contains("`" + name + "`"), true);
                }
            }
        }
    }
}
