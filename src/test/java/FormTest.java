import java.io.IOException;
import java.lang.reflect.Member;
import java.lang.reflect.Modifier;
import java.nio.file.Files;
import java.nio.file.Path;
import java.util.ArrayList;
import java.util.Arrays;
import java.util.List;
import java.util.TreeSet;
import java.util.regex.Matcher;
import java.util.regex.Pattern;
import java.util.stream.Stream;

/** The form that ../shared/LANGUAGE.md asks for, as far as it is told by the class and its text. */
public final class FormTest {
    private static final Path SOURCE = Path.of("src/main/java/YieldLines.java");
    private static final List<String> FACE = List.of(
            "public int alone(int,int)", "public int back()", "public int clear()", "public int did(int,int)",
            "public int drops(int)", "public int ends(int)", "public int line(int,int)", "public int reads()",
            "public int run(int)", "public int said(int)", "public int told(int)", "public int type(int)",
            "public int value(int,int)", "public long digest()");
    private static final List<String> WORDS_RULED_OUT = List.of("throw", "throws", "try", "catch", "synchronized",
            "assert", "import", "package", "protected", "volatile", "native", "yield", "var", "equals", "hashCode",
            "toString", "Random", "Thread", "double", "float");

    private static final List<String> LIBRARY = List.of("System.arraycopy", "Math.floorMod", "Math.max", "Math.min");

    private FormTest() {
    }

    public static void main(String[] args) throws IOException {
        face();
        methodsInside();
        staticFields();
        words();
        library();
        lengths();
        Check.end();
    }

    private static void face() {
        Check.same("class", Modifier.toString(YieldLines.class.getModifiers()), "public final");
        TreeSet<String> methods = new TreeSet<>();
        Arrays.stream(YieldLines.class.getDeclaredMethods()).filter(FormTest::isSeen)
                .forEach(m -> methods.add(m.toString().replace("YieldLines.", "")));
        Check.same("methods", new ArrayList<>(methods), FACE);
        TreeSet<String> fields = new TreeSet<>();
        Arrays.stream(YieldLines.class.getDeclaredFields()).filter(FormTest::isSeen)
                .forEach(f -> fields.add(f.toString()));
        Check.same("constants", fields.toString(), "[public static final int YieldLines.BAD, "
                + "public static final int YieldLines.FULL, public static final int YieldLines.NO, "
                + "public static final int YieldLines.NONE]");
        Check.same("constructors", Arrays.toString(YieldLines.class.getDeclaredConstructors()),
                "[public YieldLines()]");
    }

    private static boolean isSeen(Member member) {
        return !Modifier.isPrivate(member.getModifiers());
    }

    private static void methodsInside() {
        List<String> names = FACE.stream().map(m -> m.replaceAll(".* |\\(.*", "")).toList();
        Class<?>[] inside = YieldLines.class.getDeclaredClasses();
        Check.same("at most twelve classes", inside.length < 12, true);
        for (Class<?> c : inside) {
            Check.same(c + " is static", Modifier.isStatic(c.getModifiers()), true);
            Check.same(c + " is not public", Modifier.isPublic(c.getModifiers()), false);
        }
        Stream.concat(Stream.of(YieldLines.class), Arrays.stream(inside)).forEach(c -> {
            long fields = Arrays.stream(c.getDeclaredFields()).filter(f -> !Modifier.isStatic(f.getModifiers())).count();
            Check.same(c + " has at most twenty fields", fields <= 20, true);
            Arrays.stream(c.getDeclaredMethods()).forEach(m -> {
                Check.same(m + " has at most seven parameters", m.getParameterCount() <= 7, true);
                boolean isOfFace = c == YieldLines.class && isSeen(m);
                Check.same(m + " has a name of its own", isOfFace || !names.contains(m.getName()), true);
            });
        });
    }

    private static void staticFields() {
        Stream.concat(Stream.of(YieldLines.class), Arrays.stream(YieldLines.class.getDeclaredClasses()))
                .flatMap(c -> Arrays.stream(c.getDeclaredFields()))
                .filter(f -> Modifier.isStatic(f.getModifiers()))
                .forEach(f -> {
                    Check.same(f + " is final", Modifier.isFinal(f.getModifiers()), true);
                    Check.same(f + " is a number", f.getType(), int.class);
                });
    }

    /** What is called by the name of a class is the library's few here, or a constant of the class's own. */
    private static void library() throws IOException {
        Matcher called = Pattern.compile("\\b([A-Z]\\w*[a-z]\\w*)\\.(\\w+)").matcher(codeAlone());
        List<String> own = Arrays.stream(YieldLines.class.getDeclaredClasses()).map(Class::getSimpleName).toList();
        while (called.find()) {
            boolean isRight = own.contains(called.group(1)) || LIBRARY.contains(called.group());
            Check.same(called.group() + " may be used", isRight, true);
        }
    }

    private static String codeAlone() throws IOException {
        return Files.readString(SOURCE).replaceAll("(?s)/\\*.*?\\*/", "").replaceAll("//.*", "")
                .replaceAll("'(\\\\.|[^'])'", "0");
    }

    private static void words() throws IOException {
        String code = codeAlone();
        for (String word : WORDS_RULED_OUT) {
            Matcher found = Pattern.compile("\\b" + word + "\\b").matcher(code);
            Check.same("the word " + word, found.find(), false);
        }
        Check.same("no lambda", code.contains("->"), false);
        Check.same("no method reference", code.contains("::"), false);
        Check.same("no library by its full name", code.contains("java."), false);
        for (char c : Files.readString(SOURCE).toCharArray()) {
            if (c > 126) {
                Check.same("a sign beyond ASCII", c, ' ');
            }
        }
    }

    private static void lengths() throws IOException {
        List<String> lines = Files.readAllLines(SOURCE);
        for (int at = 0; at < lines.size(); at++) {
            Matcher head = Pattern.compile("( {4}| {8})[a-z].*\\) \\{").matcher(lines.get(at));
            if (head.matches()) {
                int length = lines.subList(at, lines.size()).indexOf(head.group(1) + "}");
                Check.same("the method at line " + (at + 1) + " is short", length > 0 && length <= 60, true);
            }
        }
    }
}
