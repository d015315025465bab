import java.io.IOException;
import java.lang.reflect.Method;
import java.lang.reflect.Modifier;
import java.net.URL;
import java.net.URLClassLoader;
import java.nio.file.Files;
import java.nio.file.Path;
import java.util.ArrayList;
import java.util.Comparator;
import java.util.List;
import java.util.regex.Matcher;
import java.util.regex.Pattern;
import java.util.stream.Stream;

/**
 * README.md: the Java that it shows is compiled as it stands there and run, and each call must answer
 * what its comment says. Every method of the class is shown, and every test is named.
 */
public final class ReadmeTest {
    private static final Path README = Path.of("README.md");
    private static final Path TESTS = Path.of("src/test/java");
    private static final Pattern BLOCK = Pattern.compile("(?ms)^```java\n(.*?)^```$");
    private static final Pattern CALL = Pattern.compile("x\\.(\\w+)\\(.*?\\)(?=;)");
    private static final Pattern SHOWN = Pattern.compile(
        "(x\\.\\w+\\(.*?\\));\\s*// (-?\\d+|NONE|HIDDEN|true|false|throws \\w+)(:.*)?");

    /** The calls that the page shows, and what it says that they answer. */
    private static final List<String> calls = new ArrayList<>();
    private static final List<String> answers = new ArrayList<>();

    public static void main(String[] args)
        throws IOException, ReflectiveOperationException, InterruptedException {
        String page = Files.readString(README);
        List<String> got = run(program(page));
        Check.due("calls that answered", got.size(), calls.size());
        for (int i = 0; i < got.size() && i < calls.size(); i++) {
            Check.due("README, " + calls.get(i), got.get(i), answers.get(i));
        }
        methodsShown();
        testsNamed(page);
        Check.finish();
    }

    /** A block that begins with static is a method, what the others show is done one behind another. */
    private static String program(String page) {
        StringBuilder methods = new StringBuilder();
        StringBuilder body = new StringBuilder();
        Matcher blocks = BLOCK.matcher(page);
        while (blocks.find()) {
            String block = blocks.group(1);
            if (block.startsWith("static ")) {
                methods.append(block);
            } else {
                block.lines().forEach(line -> body.append(asked(line)).append('\n'));
            }
        }
        return "public final class Readme {\n" + methods
            + "public static void show(java.util.List<String> got) {\n" + body + "}\n}\n";
    }

    /** The line with its answer kept, if it calls; a call must stand alone and say its answer. */
    private static String asked(String line) {
        Matcher shown = SHOWN.matcher(line);
        if (!shown.matches()) {
            Check.due("README says what this answers: " + line, CALL.matcher(line).find(), false);
            return line;
        }
        calls.add(shown.group(1));
        answers.add(shown.group(2).replace("NONE", "-1").replace("HIDDEN", "-1000000"));
        return "try { got.add(\"\" + " + shown.group(1) + "); } catch (RuntimeException e) {"
            + " got.add(\"throws \" + e.getClass().getSimpleName()); }";
    }

    private static List<String> run(String program)
        throws IOException, ReflectiveOperationException, InterruptedException {
        Path folder = Files.createTempDirectory("readme");
        try {
            Path file = Files.writeString(folder.resolve("Readme.java"), program);
            int failed = new ProcessBuilder("javac", "-cp", System.getProperty("java.class.path"), "-d",
                folder.toString(), file.toString()).inheritIO().start().waitFor();
            Check.due("javac of what README shows", failed, 0);
            return failed == 0 ? show(folder) : List.of();
        } finally {
            remove(folder);
        }
    }

    private static List<String> show(Path folder) throws IOException, ReflectiveOperationException {
        List<String> got = new ArrayList<>();
        URL[] places = {folder.toUri().toURL()};
        try (URLClassLoader loader = new URLClassLoader(places, ReadmeTest.class.getClassLoader())) {
            loader.loadClass("Readme").getMethod("show", List.class).invoke(null, got);
        }
        return got;
    }

    private static void remove(Path folder) throws IOException {
        try (Stream<Path> all = Files.walk(folder)) {
            for (Path path : all.sorted(Comparator.reverseOrder()).toList()) {
                Files.delete(path);
            }
        }
    }

    private static void methodsShown() {
        for (Method m : BentWords.class.getDeclaredMethods()) {
            if (Modifier.isPublic(m.getModifiers())) {
                boolean shown = calls.stream().anyMatch(call -> call.startsWith("x." + m.getName() + "("));
                Check.due("README shows " + m.getName(), shown, true);
            }
        }
    }

    /** Each test stands on the page, and each file that stands there is one. */
    private static void testsNamed(String page) throws IOException {
        try (Stream<Path> files = Files.list(TESTS)) {
            for (Path file : files.filter(f -> f.toString().endsWith("Test.java")).toList()) {
                Check.due("README names " + file.getFileName(), page.contains(file.getFileName().toString()),
                    true);
            }
        }
        Matcher named = Pattern.compile("`(?:src/test/java/)?(\\w+\\.java)`").matcher(page);
        while (named.find()) {
            Check.due("README names a file: " + named.group(1), Files.exists(TESTS.resolve(named.group(1))),
                true);
        }
    }
}
