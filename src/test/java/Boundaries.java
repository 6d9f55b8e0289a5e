import java.lang.reflect.InvocationTargetException;
import java.lang.reflect.Method;
import java.nio.file.Path;
import java.util.ArrayList;
import java.util.Comparator;
import java.util.List;

/** Runs the tests of a class that each hold to one sentence of the document. */
final class Boundaries {
    private Boundaries() {
    }

    static List<Method> tests(Class<?> of) {
        List<Method> tests = new ArrayList<>();
        for (Method method : of.getDeclaredMethods()) {
            if (method.isAnnotationPresent(Sentence.class)) {
                tests.add(method);
            }
        }
        tests.sort(Comparator.comparing(Method::getName));
        return tests;
    }

    /** The arguments of main: the class's path and the document's. */
    static void run(Class<?> of, Check check, String[] args) throws Exception {
        Document document = new Document(Path.of(args[1]));
        List<Method> tests = tests(of);
        check.yes("there are tests", !tests.isEmpty());
        for (Method test : tests) {
            Sentence sentence = test.getAnnotation(Sentence.class);
            check.about(sentence.of() + " \"" + sentence.words() + "\" (" + test.getName() + ")");
            String text = document.text(document.nameOf(sentence.of()));
            check.yes("the document has these words", text.contains(sentence.words()));
            int before = check.looks();
            runOne(test, check);
            check.yes("the test looks at something", check.looks() > before);
        }
        check.about("");
        System.out.println(of.getName() + ": " + tests.size() + " sentences");
        check.end();
    }

    private static void runOne(Method test, Check check) throws IllegalAccessException {
        try {
            test.invoke(null);
        } catch (InvocationTargetException e) {
            check.no("broke off with " + e.getCause(), true);
        }
    }
}
