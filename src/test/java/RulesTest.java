import java.io.IOException;
import java.lang.reflect.Field;
import java.lang.reflect.Method;
import java.lang.reflect.Modifier;
import java.nio.file.Files;
import java.nio.file.Path;
import java.util.ArrayList;
import java.util.List;
import java.util.Map;
import java.util.Set;
import java.util.TreeMap;
import java.util.TreeSet;
import java.util.regex.Matcher;
import java.util.regex.Pattern;

/** The public face, and those rules of LANGUAGE.md that can be seen by looking at the class. */
public final class RulesTest {
    private static final String SOURCE = "src/main/java/BentWords.java";
    private static final String DOCUMENT = "../shared/DOC.md";
    private static final String[] FACE = {
        "int feed(int,int,int,int,int)", "boolean end(int)", "int fault(int)", "int text(int)",
        "int rule(int)", "int noun(int,int)", "int form(int,int,int,int)",
        "int byDefault(int,int,int)", "int word(boolean,int,int,int,int)", "int hole(int,int)",
        "int message(int,int)", "int told(int,int)", "int why(int,int)", "int missing(int,int,int)",
        "int bare(int)", "int fits(int,int)", "int needs(int)", "int alike(int)", "int canBe(int)",
        "int guess(int,int)", "int fill(int,int,int)", "int empty(int)", "int strict(int)",
        "int tell(int,int,int)", "int drop(int,int,int)", "int ways(int,long)", "int status(int)",
        "int undo()", "int log(int,int)", "int would(int,int,int)", "int step(int,int,int)",
        "int run(int,int)", "int perform(int)", "int most(int)", "int image()", "int back()",
        "int count(int)"};

    public static void main(String[] args) throws IOException {
        face();
        faceOfDocument();
        members();
        nestedClasses();
        source();
        depth();
        Check.finish();
    }

    private static String signature(Method m) {
        List<String> types = new ArrayList<>();
        for (Class<?> type : m.getParameterTypes()) {
            types.add(type.getName());
        }
        return m.getReturnType().getName() + " " + m.getName() + "(" + String.join(",", types) + ")";
    }

    private static void face() {
        Set<String> want = new TreeSet<>(List.of(FACE));
        Set<String> got = new TreeSet<>();
        for (Method m : BentWords.class.getDeclaredMethods()) {
            if (Modifier.isPublic(m.getModifiers())) {
                got.add(signature(m));
            }
        }
        Check.due("the face", got.toString(), want.toString());
        Check.due("its methods", FACE.length, 37);
        Check.due("final", Modifier.isFinal(BentWords.class.getModifiers()), true);
        Check.due("constructors", BentWords.class.getDeclaredConstructors().length, 1);
        Check.due("NONE", BentWords.NONE, -1);
        Check.due("HIDDEN", BentWords.HIDDEN, -1000000);
    }

    /** Each line of the document's face stands in the source to the letter. */
    private static void faceOfDocument() throws IOException {
        String text = Files.readString(Path.of(SOURCE));
        String document = Files.readString(Path.of(DOCUMENT));
        String section = document.substring(document.indexOf("## The public face"));
        Matcher lines = Pattern.compile("(?m)^    (public .*);$")
            .matcher(section.substring(0, section.indexOf("\n## Terms")));
        int found = 0;
        while (lines.find()) {
            String line = lines.group(1);
            String end = line.endsWith(")") || line.contains(" throws ") ? " {\n" : ";\n";
            Check.due("the source has " + line, text.contains("\n    " + line + end), true);
            found++;
        }
        // two constants and the constructor beside the methods
        Check.due("lines of the document's face", found, FACE.length + 3);
        Check.due("public class", text.contains("\npublic final class BentWords {\n"), true);
    }

    private static void members() {
        Set<String> names = new TreeSet<>();
        for (String signature : FACE) {
            names.add(signature.replaceAll("^\\w+ (\\w+)\\(.*", "$1"));
        }
        for (Method m : BentWords.class.getDeclaredMethods()) {
            boolean isPublic = Modifier.isPublic(m.getModifiers());
            Check.due(m + " is public or private", isPublic || Modifier.isPrivate(m.getModifiers()),
                true);
            Check.due(m + " has a name of the face", !isPublic && names.contains(m.getName()), false);
        }
        Set<String> constants = new TreeSet<>();
        for (Field f : BentWords.class.getDeclaredFields()) {
            if (!Modifier.isPrivate(f.getModifiers())) {
                constants.add(f.getName());
            }
        }
        Check.due("fields that are not private", constants.toString(), "[HIDDEN, NONE]");
        for (Class<?> nested : BentWords.class.getDeclaredClasses()) {
            for (Method m : nested.getDeclaredMethods()) {
                Check.due(m + " has a name of the face", names.contains(m.getName()), false);
            }
        }
    }

    private static void nestedClasses() {
        List<Class<?>> all = new ArrayList<>(List.of(BentWords.class.getDeclaredClasses()));
        for (Class<?> nested : all) {
            Check.due(nested + " is static", Modifier.isStatic(nested.getModifiers()), true);
            Check.due(nested + " is public", Modifier.isPublic(nested.getModifiers()), false);
        }
        all.add(BentWords.class);
        Check.due("at most twelve classes", all.size() <= 12, true);
        for (Class<?> c : all) {
            int fields = 0;
            for (Field f : c.getDeclaredFields()) {
                boolean isStatic = Modifier.isStatic(f.getModifiers());
                Check.due(f + " is static and not final",
                    isStatic && !Modifier.isFinal(f.getModifiers()), false);
                fields += isStatic ? 0 : 1;
            }
            Check.due(c + " has at most twenty fields", fields <= 20, true);
            for (Method m : c.getDeclaredMethods()) {
                Check.due(m + " takes at most seven", m.getParameterCount() <= 7, true);
            }
        }
    }

    private static void source() throws IOException {
        String text = Files.readString(Path.of(SOURCE));
        String[] banned = {"->", "::", "Exact", "catch", "finally", "synchronized", "assert ",
            "getClass", "hashCode", "Random", "currentTime", "nanoTime", "System.out", "package ",
            "float", "double", "volatile", "Thread", "instanceof"};
        for (String word : banned) {
            Check.due("the source has " + word, text.contains(word), false);
        }
        Matcher imports = Pattern.compile("(?m)^import (.*);$").matcher(text);
        while (imports.find()) {
            Check.due("import", imports.group(1), "java.util.NoSuchElementException");
        }
        // an object is made in constructors alone, but for the exception
        Matcher made = Pattern.compile("(?m)^( *).*\\bnew (\\w+)").matcher(text);
        while (made.find()) {
            boolean inConstructor = enclosing(text, made.start()).matches("(public )?[A-Z]\\w*\\(.*");
            Check.due("new " + made.group(2) + " in a constructor",
                inConstructor || made.group(2).equals("NoSuchElementException"), true);
        }
        int longest = 0;
        Matcher methods = Pattern.compile("(?m)^( +)[^ /*@}].*\\) (throws \\w+ )?\\{$").matcher(text);
        while (methods.find()) {
            if (methods.group(1).length() <= 8) {
                int close = text.indexOf("\n" + methods.group(1) + "}", methods.end());
                longest = Math.max(longest, text.substring(methods.start(), close).split("\n").length);
            }
        }
        Check.due("the longest method has " + longest, longest > 0 && longest <= 60, true);
        for (char c : text.toCharArray()) {
            if (c > 126) {
                Check.due("a sign beyond 126", c, 126);
            }
        }
    }

    /**
     * How deep calls go, by the names alone: a call of a name is one of every method that bears it.
     * A call of a library's method of such a name would make it deeper, never less deep.
     */
    private static void depth() throws IOException {
        String text = Files.readString(Path.of(SOURCE)).replaceAll("(?s)/\\*.*?\\*/|//[^\n]*", "");
        Map<String, Set<String>> calls = new TreeMap<>();
        Matcher heads = Pattern.compile(
            "(?m)^( {4}| {8})(?:\\w+(?:\\[\\])? )*(\\w+)\\([^()]*\\) (throws \\w+ )?\\{$").matcher(text);
        Map<String, String> bodies = new TreeMap<>();
        while (heads.find()) {
            String name = heads.group(2);
            if (!Set.of("if", "for", "while", "switch").contains(name)) {
                int close = text.indexOf("\n" + heads.group(1) + "}", heads.end());
                bodies.merge(name, text.substring(heads.end(), close), String::concat);
            }
        }
        for (Map.Entry<String, String> e : bodies.entrySet()) {
            Set<String> names = calls.computeIfAbsent(e.getKey(), k -> new TreeSet<>());
            Matcher m = Pattern.compile("(\\w+)\\(").matcher(e.getValue());
            while (m.find()) {
                if (bodies.containsKey(m.group(1))) {
                    names.add(m.group(1));
                }
            }
        }
        Check.due("methods found", bodies.size() > 100, true);
        for (String name : bodies.keySet()) {
            String path = deepest(name, calls, 0);
            Check.due("calls go at most eight deep: " + path, path.split(" ").length <= 8, true);
        }
    }

    private static String deepest(String name, Map<String, Set<String>> calls, int level) {
        String best = "";
        for (String called : level > 20 ? Set.<String>of() : calls.get(name)) {
            String path = deepest(called, calls, level + 1);
            if (path.split(" ").length > best.split(" ").length || best.isEmpty()) {
                best = path;
            }
        }
        return best.isEmpty() ? name : name + " " + best;
    }

    /** The head of the method that a place stands in, without blanks ahead. */
    private static String enclosing(String text, int place) {
        Matcher heads = Pattern.compile("(?m)^(    |        )(\\w.*\\(.*\\{)$").matcher(text);
        String head = "";
        while (heads.find() && heads.start() < place) {
            if (!heads.group(2).startsWith("for ") && !heads.group(2).startsWith("if ")) {
                head = heads.group(2);
            }
        }
        return head;
    }
}
