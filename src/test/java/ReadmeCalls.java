import java.io.IOException;
import java.lang.reflect.InvocationTargetException;
import java.lang.reflect.Method;
import java.lang.reflect.Modifier;
import java.net.URL;
import java.net.URLClassLoader;
import java.nio.file.Files;
import java.nio.file.Path;
import java.util.Comparator;
import java.util.List;
import java.util.Set;
import java.util.TreeSet;
import java.util.regex.Matcher;
import java.util.regex.Pattern;
import java.util.stream.Stream;
import javax.tools.JavaCompiler;
import javax.tools.ToolProvider;

/**
 * The calls that README.md shows, with the answers that it shows. Its Java examples are read as one
 * program, in which each call is compared with what stands behind it; that program is compiled and
 * run, so the tests cannot lag behind README.md.
 */
public final class ReadmeCalls {
    private static final Path README = Path.of("README.md");
    private static final Path TESTS = Path.of("src/test/java");
    private static final String EXAMPLES = "ReadmeExamples";
    private static final String LIMIT = "An object is used for at most 512 calls after it has been"
            + " made; what later calls answer is free.";

    private static final Set<String> FACE = namesOfFace();
    private static final Pattern CALL =
            Pattern.compile("\\b\\w+\\.(" + String.join("|", FACE) + ")\\(");
    private static final Pattern SHOWN = Pattern.compile(
            "(?<kept>(?:int|long) \\w+ = )?(?<call>\\w+\\.(?<name>\\w+)\\([^()]*\\));"
            + " +// (?:throws (?<thrown>\\w+)|(?<answer>[^:]+))(?::.*)?");

    private static int wrong = 0;
    private static int compared = 0;
    private static final Set<String> shownNames = new TreeSet<>();
    private static final Set<String> shownThrown = new TreeSet<>();

    /** What the examples call, which come from another class loader: so it is public. */
    public interface Call {
        long answer();
    }

    public static void main(String[] args) throws Exception {
        List<String> lines = Files.readAllLines(README);
        String program = programOf(lines);
        compileAndRun(program);
        everyCallIsShown();
        everythingThrownIsShown();
        limitIsTold(lines);
        everyTestIsTold(lines);
        if (compared == 0) {
            tell(0, "no call was compared");
        }
        System.out.println(wrong == 0 ? "all " + compared + " answers are as due"
                : wrong + " answers are not as due");
        if (wrong != 0) {
            System.exit(1);
        }
    }

    private static Set<String> namesOfFace() {
        Set<String> names = new TreeSet<>();
        for (Method m : EffectNets.class.getDeclaredMethods()) {
            if (Modifier.isPublic(m.getModifiers())) {
                names.add(m.getName());
            }
        }
        return names;
    }

    private static void tell(int line, String what) {
        wrong++;
        System.out.println("README.md" + (line == 0 ? "" : ", line " + line) + ": " + what);
    }

    /** Line by line, so that what the compiler says of a line is true of README.md's. */
    private static String programOf(List<String> lines) {
        StringBuilder program = new StringBuilder("public final class " + EXAMPLES + " {"
                + " private static final int NONE = EffectNets.NONE; public static void run() {");
        boolean inExample = false;
        for (int i = 0; i < lines.size(); i++) {
            String line = lines.get(i).strip();
            if (line.startsWith("```")) {
                inExample = line.equals("```java");
            } else if (inExample) {
                program.append(comparing(i + 1, line));
            } else if (CALL.matcher(line).find()) {
                tell(i + 1, "a call is shown outside of the examples: " + line);
            }
            program.append('\n');
        }
        return program.append("} }\n").toString();
    }

    private static String comparing(int number, String line) {
        Matcher shown = SHOWN.matcher(line);
        if (!shown.matches()) {
            if (CALL.matcher(line).find()) {
                tell(number, "a call is shown without an answer: " + line);
            }
            return line;
        }
        shownNames.add(shown.group("name"));
        String kept = shown.group("kept");
        String call = shown.group("call");
        String thrown = shown.group("thrown");
        if (thrown != null) {
            shownThrown.add(thrown);
        }
        return (kept == null ? "" : kept + (kept.startsWith("int") ? "(int) " : ""))
                + "ReadmeCalls.due(" + number + ", \"" + call + "\", () -> " + call + ", "
                + (thrown != null ? thrown + ".class" : shown.group("answer").strip()) + ");";
    }

    public static long due(int line, String call, Call made, long want) {
        compared++;
        long got = 0;
        try {
            got = made.answer();
            if (got != want) {
                tell(line, call + " answered " + got + ", shown is " + want);
            }
        } catch (RuntimeException e) {
            tell(line, call + " threw " + e + ", shown is " + want);
        }
        return got;
    }

    /** The exception's own class counts: what the machine throws is of a class below it. */
    public static long due(int line, String call, Call made, Class<?> want) {
        compared++;
        long got = 0;
        try {
            got = made.answer();
            tell(line, call + " answered " + got + ", shown is " + want);
        } catch (RuntimeException e) {
            if (e.getClass() != want) {
                tell(line, call + " threw " + e + ", shown is " + want);
            }
        }
        return got;
    }

    private static void compileAndRun(String program) throws Exception {
        JavaCompiler compiler = ToolProvider.getSystemJavaCompiler();
        if (compiler == null) {
            tell(0, "there is no compiler for the examples");
            return;
        }
        Path out = Files.createTempDirectory("readme");
        try {
            Path source = Files.writeString(out.resolve(EXAMPLES + ".java"), program);
            int failed = compiler.run(null, null, null, "-d", out.toString(),
                    "-cp", System.getProperty("java.class.path"), source.toString());
            if (failed != 0) {
                tell(0, "the examples do not compile");
            } else {
                runExamples(out);
            }
        } finally {
            delete(out);
        }
    }

    private static void runExamples(Path out) throws Exception {
        try (URLClassLoader loader = new URLClassLoader(new URL[] {out.toUri().toURL()})) {
            loader.loadClass(EXAMPLES).getMethod("run").invoke(null);
        } catch (InvocationTargetException e) {
            tell(0, "the examples threw " + e.getCause());
        }
    }

    private static void delete(Path out) throws IOException {
        try (Stream<Path> all = Files.walk(out)) {
            for (Path path : all.sorted(Comparator.reverseOrder()).toList()) {
                Files.delete(path);
            }
        }
    }

    private static void everyCallIsShown() {
        Set<String> missing = new TreeSet<>(FACE);
        missing.removeAll(shownNames);
        if (!missing.isEmpty()) {
            tell(0, "no example shows " + missing);
        }
    }

    private static void everythingThrownIsShown() {
        Set<String> want = Set.of("IllegalArgumentException", "IllegalStateException",
                "IndexOutOfBoundsException");
        if (!shownThrown.equals(want)) {
            tell(0, "the examples show that " + shownThrown + " are thrown, due is " + want);
        }
    }

    private static void limitIsTold(List<String> lines) {
        if (!String.join(" ", lines).replaceAll("\\s+", " ").contains(LIMIT)) {
            tell(0, "it does not say: " + LIMIT);
        }
    }

    private static void everyTestIsTold(List<String> lines) throws IOException {
        String text = String.join("\n", lines);
        try (Stream<Path> tests = Files.list(TESTS)) {
            for (Path test : tests.sorted().toList()) {
                String name = test.getFileName().toString().replace(".java", "");
                if (!text.contains("\n- `" + name + "`: ")) {
                    tell(0, "it does not say what " + name + " is for");
                }
            }
        }
    }
}
