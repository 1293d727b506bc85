import java.lang.reflect.InvocationTargetException;
import java.lang.reflect.Method;
import java.nio.file.Path;
import java.util.Arrays;
import java.util.Comparator;
import java.util.List;

/** Each sentence of the document, its boundary cases first of all: every method that Holds one is a test of its own. */
public final class EdgesTest {
    private static final List<Class<?>> TESTS = List.of(EdgesOfTerms.class, EdgesOfTexts.class, EdgesOfSenses.class,
        EdgesOfRows.class, EdgesOfOffices.class, EdgesOfDeeds.class, EdgesOfReadings.class, EdgesOfHired.class,
        EdgesOfPlans.class, EdgesOfLearnt.class, EdgesOfTold.class);

    private EdgesTest() {
    }

    public static void main(String[] args) throws Exception {
        Document document = new Document(Path.of("../shared/DOC.md"));
        Check.due("promises of the document", document.promises(), 49);
        int tests = 0;
        for (Class<?> one : TESTS) {
            Method[] methods = one.getDeclaredMethods();
            Arrays.sort(methods, Comparator.comparing(Method::getName));
            for (Method method : methods) {
                Holds holds = method.getAnnotation(Holds.class);
                if (holds != null) {
                    tests++;
                    run(method, holds, document);
                }
            }
        }
        for (String word : document.free()) {
            Check.due("a word of the document that no test holds, " + word, 1, 0);
        }
        System.out.println(tests + " tests");
        Check.end();
    }

    private static void run(Method method, Holds holds, Document document) throws IllegalAccessException {
        Check.now(holds.in() + ", \"" + holds.says() + "\", " + method.getName() + ": ");
        Check.due("these words stand there", document.hold(holds.in(), holds.says()) ? 1 : 0, 1);
        try {
            method.invoke(null);
        } catch (InvocationTargetException thrown) {
            Check.due("it threw " + thrown.getCause(), 1, 0);
        }
        Check.now("");
    }
}
