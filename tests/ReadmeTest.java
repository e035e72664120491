import java.io.ByteArrayOutputStream;
import java.io.PrintStream;
import java.lang.reflect.Method;
import java.lang.reflect.Modifier;
import java.net.URL;
import java.net.URLClassLoader;
import java.nio.charset.StandardCharsets;
import java.nio.file.Files;
import java.nio.file.Path;
import java.util.ArrayList;
import java.util.List;
import java.util.stream.Stream;
import javax.tools.JavaCompiler;
import javax.tools.ToolProvider;

/** README.md: its example compiles and prints what stands behind it, and all calls and tests are named there. */
public final class ReadmeTest {
    public static void main(String[] args) throws Exception {
        String page = Files.readString(Path.of("README.md"));
        example(page);
        callsAreNamed(page);
        testsAreNamed(page);
        Check.end("ReadmeTest");
    }

    private static void example(String page) throws Exception {
        String program = block(page, "```java\n");
        List<String> want = toldToPrint(program);
        List<String> got = printed(program);
        Check.due("README.md: lines that its example prints", want.size(), got.size());
        for (int i = 0; i < want.size() && i < got.size(); i++) {
            Check.due("README.md: line " + (i + 1) + " of its example, told to print " + want.get(i)
                    + ", printed " + got.get(i) + ": so", true, want.get(i).equals(got.get(i)));
        }
    }

    private static String block(String page, String head) {
        int from = page.indexOf(head) + head.length();
        return page.substring(from, page.indexOf("```", from));
    }

    /** What stands behind the sign of a comment, up to the colon. */
    private static List<String> toldToPrint(String program) {
        List<String> told = new ArrayList<>();
        for (String line : program.split("\n")) {
            int at = line.indexOf("// ");
            if (line.contains("System.out.println(") && at >= 0) {
                told.add(line.substring(at + 3, line.indexOf(':', at)));
            }
        }
        return told;
    }

    private static List<String> printed(String program) throws Exception {
        Path place = Files.createTempDirectory("readme");
        Path file = place.resolve("Example.java");
        Files.writeString(file, program);
        JavaCompiler compiler = ToolProvider.getSystemJavaCompiler();
        int code = compiler.run(null, null, null, "-cp", System.getProperty("java.class.path"),
                "-d", place.toString(), file.toString());
        Check.due("README.md: its example compiles (0)", 0, code);
        List<String> lines = code == 0 ? run(place) : new ArrayList<>();
        try (Stream<Path> files = Files.list(place)) {
            for (Path each : files.toList()) {
                Files.delete(each);
            }
        }
        Files.delete(place);
        return lines;
    }

    private static List<String> run(Path place) throws Exception {
        PrintStream before = System.out;
        ByteArrayOutputStream out = new ByteArrayOutputStream();
        try (URLClassLoader loader = new URLClassLoader(new URL[] {place.toUri().toURL()},
                ReadmeTest.class.getClassLoader())) {
            System.setOut(new PrintStream(out, true, StandardCharsets.UTF_8));
            loader.loadClass("Example").getMethod("main", String[].class).invoke(null, (Object) new String[0]);
        } finally {
            System.setOut(before);
        }
        return out.toString(StandardCharsets.UTF_8).lines().toList();
    }

    private static void callsAreNamed(String page) {
        for (Method m : NoThrees.class.getDeclaredMethods()) {
            if (Modifier.isPublic(m.getModifiers())) {
                Check.due("README.md names " + m.getName(), true, page.contains("`" + m.getName() + "`"));
            }
        }
    }

    private static void testsAreNamed(String page) throws Exception {
        try (Stream<Path> files = Files.list(Path.of("tests"))) {
            for (Path each : files.toList()) {
                String name = each.getFileName().toString();
                if (name.endsWith("Test.java")) {
                    String test = name.substring(0, name.length() - ".java".length());
                    Check.due("README.md names " + test, true, page.contains("| `" + test + "` |"));
                }
            }
        }
    }
}
