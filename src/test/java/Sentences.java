import java.lang.reflect.InvocationTargetException;
import java.lang.reflect.Method;
import java.util.ArrayList;
import java.util.Comparator;
import java.util.List;

/** Runs the tests of a class that belong to sentences of the document, each one by itself. */
final class Sentences {
    private Sentences() {
    }

    static List<Method> testsOf(Class<?> tests) {
        List<Method> found = new ArrayList<>();
        for (Method m : tests.getDeclaredMethods()) {
            if (m.isAnnotationPresent(Sentence.class)) {
                m.setAccessible(true);
                found.add(m);
            }
        }
        found.sort(Comparator.comparing(Method::getName));
        return found;
    }

    static void run(Class<?> tests) {
        int failed = 0;
        List<Method> all = testsOf(tests);
        for (Method m : all) {
            int before = Check.wrong;
            runOne(m);
            if (Check.wrong != before) {
                failed++;
                Sentence s = m.getAnnotation(Sentence.class);
                System.out.println("  " + m.getName() + " failed; promise " + s.promise() + " says: "
                    + s.says());
            }
        }
        Check.test = "";
        System.out.println(all.size() + " sentences' tests, " + failed + " failed");
        Check.finish();
    }

    private static void runOne(Method m) {
        int asked = Check.asked;
        Check.test = m.getName();
        try {
            m.invoke(null);
        } catch (InvocationTargetException e) {
            Check.due("it throws " + e.getCause(), true, false);
            e.getCause().printStackTrace(System.out);
        } catch (IllegalAccessException e) {
            Check.due("it can't be called", true, false);
        }
        if (Check.asked == asked) {
            Check.due("it asks something", false, true);
        }
    }
}
