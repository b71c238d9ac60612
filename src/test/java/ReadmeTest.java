import java.io.IOException;
import java.net.URL;
import java.net.URLClassLoader;
import java.nio.file.Files;
import java.nio.file.Path;
import java.util.ArrayList;
import java.util.List;
import java.util.concurrent.Callable;
import java.util.function.Supplier;
import java.util.regex.Matcher;
import java.util.regex.Pattern;
import javax.tools.JavaCompiler;
import javax.tools.ToolProvider;

/** The calls that README.md shows answer what it says, and its table of all calls is the class's face. */
final class ReadmeTest {
    private static final Pattern MADE = Pattern.compile("MarchTests \\w+ = new MarchTests\\(-?\\d+, -?\\d+\\);");
    private static final Pattern ANSWERED =
        Pattern.compile("((?:[xyz]\\.)?(\\w+)\\(.*\\)); +// (-?\\d+|true|false|\\w+Exception): .+");
    private static final Pattern ROW = Pattern.compile("\\| `(\\w+ \\w+\\([^)]*\\))` \\| [^|]+ \\|([^|]*)\\|");
    private static final Pattern THROWN = Pattern.compile("`(\\w+Exception)`");

    private final List<String> lines;
    private final StringBuilder members = new StringBuilder();
    private final StringBuilder made = new StringBuilder();
    private final StringBuilder calls = new StringBuilder();
    private final List<String> names = new ArrayList<>();
    private final List<String> whats = new ArrayList<>();
    private final List<String> answers = new ArrayList<>();
    private final List<String> strangers = new ArrayList<>();

    private ReadmeTest(List<String> lines) {
        this.lines = lines;
    }

    /** A block of Java is either a method, which begins with static, or a row of calls. */
    private void gather() {
        boolean inside = false;
        boolean method = false;
        for (int i = 0; i < lines.size(); i++) {
            String line = lines.get(i);
            if (line.startsWith("```")) {
                inside = line.equals("```java");
                method = inside && i + 1 < lines.size() && lines.get(i + 1).startsWith("static ");
            } else if (inside && method) {
                members.append(line).append('\n');
            } else if (inside) {
                gatherCall(i + 1, line);
            }
        }
    }

    private void gatherCall(int number, String line) {
        Matcher answered = ANSWERED.matcher(line);
        if (answered.matches()) {
            calls.append("calls.add(() -> ").append(answered.group(1)).append(");\n");
            names.add(answered.group(2));
            whats.add("line " + number + ", " + answered.group(1));
            answers.add(answered.group(3));
        } else if (MADE.matcher(line).matches()) {
            made.append(line).append('\n');
        } else {
            strangers.add("line " + number + ", " + line);
        }
    }

    private String program() {
        return "import java.util.ArrayList;\nimport java.util.List;\nimport java.util.concurrent.Callable;\n"
            + "public final class Shown implements java.util.function.Supplier<List<Callable<Object>>> {\n"
            + members + "public List<Callable<Object>> get() {\n"
            + "List<Callable<Object>> calls = new ArrayList<>();\n" + made + calls + "return calls;\n}\n}\n";
    }

    private void calls(Check check) throws Exception {
        check.due("lines of Java that are no call with its answer", "[]", () -> strangers);
        Path directory = Files.createTempDirectory("readme");
        Path source = directory.resolve("Shown.java");
        Path compiled = directory.resolve("Shown.class");
        try {
            Files.writeString(source, program());
            JavaCompiler compiler = ToolProvider.getSystemJavaCompiler();
            check.due("compiling what is shown", 0, () -> compiler.run(null, null, null, "--release", "17", "-cp",
                System.getProperty("java.class.path"), "-d", directory.toString(), source.toString()));
            try (URLClassLoader loader = new URLClassLoader(new URL[] {directory.toUri().toURL()})) {
                make(check, loader.loadClass("Shown").getDeclaredConstructor().newInstance());
            }
        } finally {
            Files.deleteIfExists(compiled);
            Files.deleteIfExists(source);
            Files.deleteIfExists(directory);
        }
    }

    private void make(Check check, Object shown) {
        List<?> shownCalls = (List<?>) ((Supplier<?>) shown).get();
        for (int i = 0; i < shownCalls.size(); i++) {
            Callable<?> call = (Callable<?>) shownCalls.get(i);
            check.due(whats.get(i), answers.get(i), () -> answerOf(call));
        }
    }

    private static Object answerOf(Callable<?> call) {
        try {
            return call.call();
        } catch (RuntimeException e) {
            throw e;
        } catch (Exception e) {
            throw new AssertionError(e);
        }
    }

    private void everyMethodIsShown(Check check) {
        for (String method : FaceTest.METHODS) {
            String name = method.substring(method.indexOf(' ') + 1, method.indexOf('('));
            check.due("a call of " + name + " is shown", true, () -> names.contains(name));
        }
    }

    /** The table's rows as FaceTest tells methods: without the parameters' names. */
    private List<String> rows() {
        List<String> rows = new ArrayList<>();
        for (String line : lines) {
            Matcher row = ROW.matcher(line);
            if (row.matches()) {
                StringBuilder told = new StringBuilder(row.group(1).replaceAll("(int|long) \\w+(, |\\))", "$1$2"));
                Matcher thrown = THROWN.matcher(row.group(2));
                for (String before = " throws "; thrown.find(); before = " ") {
                    told.append(before).append(thrown.group(1));
                }
                rows.add(told.toString().replace(", ", ","));
            }
        }
        return rows;
    }

    public static void main(String[] args) throws Exception {
        ReadmeTest readme = new ReadmeTest(readmeLines());
        readme.gather();
        Check check = new Check("README.md");
        readme.calls(check);
        readme.everyMethodIsShown(check);
        check.due("the table of all calls", List.of(FaceTest.METHODS), readme::rows);
        check.finish();
    }

    private static List<String> readmeLines() throws IOException {
        return Files.readAllLines(Path.of("README.md"));
    }
}
