import java.io.IOException;
import java.lang.reflect.InvocationTargetException;
import java.lang.reflect.Method;
import java.nio.file.Files;
import java.nio.file.Path;
import java.util.ArrayList;
import java.util.Comparator;
import java.util.List;

/** Runs the tests of a class, each with the sentence of the document that it holds, and ends with exit code 1 if one fails. */
final class Sentences {
    private static final Path DOCUMENT = Path.of("..", "shared", "DOC.md");

    private Sentences() {
    }

    static void run(Class<?> tests) {
        String document = document();
        int failed = 0;
        List<Method> methods = testsOf(tests);
        for (Method test : methods) {
            if (!holds(test, document)) {
                failed++;
            }
        }
        System.out.println(methods.size() + " tests, " + failed + " failed");
        if (methods.isEmpty() || failed != 0) {
            System.exit(1);
        }
    }

    private static List<Method> testsOf(Class<?> tests) {
        List<Method> found = new ArrayList<>();
        for (Method method : tests.getDeclaredMethods()) {
            if (method.isAnnotationPresent(Holds.class)) {
                found.add(method);
            }
        }
        found.sort(Comparator.comparing(Method::getName));
        return found;
    }

    private static boolean holds(Method test, String document) {
        Holds sentence = test.getAnnotation(Holds.class);
        Due due = new Due();
        try {
            test.invoke(null, due);
        } catch (InvocationTargetException thrown) {
            due.thrown(thrown.getCause());
        } catch (IllegalAccessException hidden) {
            throw new IllegalStateException(hidden);
        }
        // A sentence that the document no longer has needs its test to be read again.
        due.is("the document says so", saysSo(document, sentence), true);
        boolean good = due.asked() > 1 && due.wrong() == 0;
        System.out.println((good ? "holds " : "FAILS ") + test.getName() + " [" + sentence.under() + "] " + sentence.words());
        return good;
    }

    private static boolean saysSo(String document, Holds sentence) {
        if (document == null) {
            return true;
        }
        int from = document.indexOf("## " + sentence.under() + " ");
        if (from < 0) {
            return false;
        }
        int next = document.indexOf(" ## ", from);
        String section = document.substring(from, next < 0 ? document.length() : next);
        return section.contains(sentence.words());
    }

    /** The document with single spaces, or null where it does not lie beside the project. */
    private static String document() {
        try {
            return Files.exists(DOCUMENT) ? Files.readString(DOCUMENT).replaceAll("\\s+", " ") : null;
        } catch (IOException unread) {
            throw new IllegalStateException(unread);
        }
    }
}
