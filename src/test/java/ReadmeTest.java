import java.io.ByteArrayOutputStream;
import java.io.IOException;
import java.io.PrintStream;
import java.net.URL;
import java.net.URLClassLoader;
import java.nio.file.Files;
import java.nio.file.Path;
import java.util.ArrayList;
import java.util.List;
import java.util.Set;
import java.util.TreeSet;
import java.util.regex.Matcher;
import java.util.regex.Pattern;
import java.util.stream.Stream;
import javax.tools.ToolProvider;

/** That README.md is right: its example's answers, its FAULTS and their places, the calls, the tests that it names. */
public final class ReadmeTest {
    private static final Check CHECK = new Check();
    private static final Path PLACE = Path.of("out", "readme");

    private static List<String> found(String regex, String in) {
        List<String> all = new ArrayList<>();
        Matcher m = Pattern.compile(regex, Pattern.DOTALL).matcher(in);
        while (m.find()) {
            all.add(m.group(1));
        }
        return all;
    }

    // ==== The example

    /** What the example says: each line that it prints has its answer behind it, as the first word of a comment. */
    private static void example(String readme) throws IOException, ReflectiveOperationException {
        List<String> examples = found("```java\n(.*?)```", readme);
        CHECK.due("examples", examples.size(), 1);
        Files.createDirectories(PLACE);
        Path file = PLACE.resolve("Example.java");
        Files.writeString(file, examples.get(0));
        CHECK.due("the example compiles", ToolProvider.getSystemJavaCompiler().run(null, null, null, "-Xlint:all", "-Werror",
            "-d", PLACE.toString(), "-cp", System.getProperty("java.class.path"), file.toString()), 0);
        List<String> answers = found(" // (-?\\w+)", examples.get(0));
        CHECK.due("answers of the example", answers.size(), found("(println)\\(", examples.get(0)).size());
        CHECK.due("the example", printedBy("Example").trim(), String.join("\n", answers));
    }

    private static String printedBy(String program) throws IOException, ReflectiveOperationException {
        PrintStream before = System.out;
        ByteArrayOutputStream bytes = new ByteArrayOutputStream();
        try (URLClassLoader loader = new URLClassLoader(new URL[] {PLACE.toUri().toURL()}, ReadmeTest.class.getClassLoader())) {
            System.setOut(new PrintStream(bytes, true));
            loader.loadClass(program).getMethod("main", String[].class).invoke(null, (Object) new String[0]);
        } finally {
            System.setOut(before);
        }
        return bytes.toString().replace(System.lineSeparator(), "\n");
    }

    /** The text that tells what a text is must be one without a FAULT. */
    private static void text(String readme) {
        for (String text : found("```text\n(.*?)```", readme)) {
            CHECK.fine(text);
        }
    }

    // ==== FAULTS

    private static void faults(String readme) {
        Set<Integer> told = new TreeSet<>();
        Matcher row = Pattern.compile("\n\\| (\\d) \\| [^\n]*").matcher(readme);
        while (row.find()) {
            int code = Integer.parseInt(row.group(1));
            Matcher text = Pattern.compile("`([^`]*)` \\((\\d+)\\)").matcher(row.group());
            while (text.find()) {
                told.add(code);
                StringBuilder marked = new StringBuilder(text.group(1));
                CHECK.fault(code, marked.insert(Integer.parseInt(text.group(2)), '^').toString());
            }
        }
        CHECK.due("FAULTS that are told", told.toString(), "[1, 2, 3, 4, 5]");
    }

    // ==== Calls and tests

    private static void calls(String readme) {
        Set<String> told = new TreeSet<>();
        String table = readme.substring(readme.indexOf("| calls |"), readme.indexOf("## How to run"));
        for (String row : found("\n\\| (`[^|]*) \\|", table)) {
            told.addAll(found("`(\\w+)`", row));
        }
        Set<String> face = new TreeSet<>();
        for (java.lang.reflect.Method m : GivenMinutes.class.getDeclaredMethods()) {
            if (java.lang.reflect.Modifier.isPublic(m.getModifiers())) {
                face.add(m.getName());
            }
        }
        CHECK.due("calls", told.toString(), face.toString());
    }

    private static void tests(String readme) throws IOException {
        Set<String> there = new TreeSet<>();
        try (Stream<Path> files = Files.list(Path.of("src/test/java"))) {
            files.map(f -> f.getFileName().toString()).filter(f -> f.endsWith("Test.java"))
                .forEach(f -> there.add(f.substring(0, f.length() - ".java".length())));
        }
        CHECK.due("tests", new TreeSet<>(found("\n\\| (\\w+Test) \\|", readme)).toString(), there.toString());
    }

    public static void main(String[] args) throws IOException, ReflectiveOperationException {
        String readme = Files.readString(Path.of("README.md"));
        example(readme);
        text(readme);
        faults(readme);
        calls(readme);
        tests(readme);
        CHECK.end();
    }
}
