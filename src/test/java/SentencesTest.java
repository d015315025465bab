import java.io.IOException;
import java.lang.reflect.Method;
import java.nio.file.Files;
import java.nio.file.Path;
import java.util.Map;
import java.util.TreeMap;
import java.util.regex.Matcher;
import java.util.regex.Pattern;

/**
 * Each test that belongs to a sentence quotes it as it stands in the document, and the Terms and the
 * promises have no words that no test quotes.
 */
public final class SentencesTest {
    private static final Path DOCUMENT = Path.of("../shared/DOC.md");
    private static final Class<?>[] TESTS = {TermsBoundsTest.class, TextsBoundsTest.class,
        AnswersBoundsTest.class, ActsBoundsTest.class, ScriptsBoundsTest.class};
    private static final int PROMISES = 38;

    public static void main(String[] args) throws IOException {
        Map<Integer, String> sections = sections(Files.readString(DOCUMENT));
        Map<Integer, boolean[]> quoted = new TreeMap<>();
        sections.forEach((n, text) -> quoted.put(n, new boolean[text.length()]));
        for (int n = 0; n <= PROMISES; n++) {
            Check.due("the document has promise " + n, sections.containsKey(n), true);
        }
        for (Class<?> tests : TESTS) {
            for (Method m : Sentences.testsOf(tests)) {
                quote(m, sections, quoted);
            }
        }
        for (int n : sections.keySet()) {
            Check.due("words of promise " + n + " that no test quotes", left(sections.get(n), quoted.get(n)),
                "");
        }
        Check.finish();
    }

    /** By number the words of each promise; by 0 what stands ahead of them from the Terms on. */
    private static Map<Integer, String> sections(String document) {
        Map<Integer, String> found = new TreeMap<>();
        for (String section : document.split("(?m)^## ")) {
            Matcher promise = Pattern.compile("Promise (\\d+): [^\n]*\n\\s*`[^`]*`:(.*)", Pattern.DOTALL)
                .matcher(section);
            if (promise.matches()) {
                found.put(Integer.parseInt(promise.group(1)), plain(promise.group(2)));
            } else if (section.startsWith("Terms\n") || section.startsWith("What it is\n")) {
                found.merge(0, plain(terms(section)), (a, b) -> a + " " + b);
            }
        }
        return found;
    }

    /** Of what stands ahead of the Terms the one sentence that tells a bound. */
    private static String terms(String section) {
        int bound = section.indexOf("An object is used for");
        return bound < 0 ? section.substring("Terms\n".length())
            : section.substring(bound).replaceAll("what later calls answer is free\\.", "");
    }

    private static String plain(String text) {
        return text.replaceAll("```(text)?", " ").replace("`", "").replaceAll("==== \\d\\.", " ")
            .replaceAll("\\s+", " ").trim();
    }

    private static void quote(Method m, Map<Integer, String> sections, Map<Integer, boolean[]> quoted) {
        Sentence s = m.getAnnotation(Sentence.class);
        String text = sections.getOrDefault(s.promise(), "");
        int at = text.indexOf(s.says());
        Check.due(m.getName() + " quotes promise " + s.promise() + ": " + s.says(), at >= 0, true);
        String head = s.promise() == 0 ? "t\\d_\\w+" : String.format("p%02d_\\w+", s.promise());
        Check.due(m.getName() + " is named by its promise", m.getName().matches(head), true);
        while (at >= 0) {
            for (int i = at; i < at + s.says().length(); i++) {
                quoted.get(s.promise())[i] = true;
            }
            at = text.indexOf(s.says(), at + 1);
        }
    }

    /** The letters and digits that stand in no quote. */
    private static String left(String text, boolean[] quoted) {
        StringBuilder left = new StringBuilder();
        for (int i = 0; i < quoted.length; i++) {
            left.append(quoted[i] ? ' ' : text.charAt(i));
        }
        return left.toString().replaceAll("[^A-Za-z0-9]+", " ").trim();
    }
}
