import java.io.IOException;
import java.lang.reflect.InvocationTargetException;
import java.lang.reflect.Method;
import java.nio.file.Files;
import java.nio.file.Path;
import java.util.ArrayList;
import java.util.Comparator;
import java.util.LinkedHashMap;
import java.util.List;
import java.util.Map;

/**
 * Each sentence of the document that names a boundary case has tests of its own, marked with Says. This runs them
 * all, and looks whether the sentences stand in the document and whether the document has one that no test is for.
 */
public final class BoundariesTest {
    private static final Class<?>[] TESTS = {GraphBoundaries.class, LayoutBoundaries.class, DrawingBoundaries.class};
    private static final Path DOCUMENT = Path.of("../shared/DOC.md");
    private static final int PROMISES = 19;

    private BoundariesTest() {
    }

    public static void main(String[] args) throws IOException {
        int looked = 0;
        int wrong = 0;
        for (Method test : tests()) {
            Answers answers = run(test);
            looked += answers.looked();
            wrong += answers.wrong().size();
            for (String what : answers.wrong()) {
                System.out.println(told(test) + ": " + what);
            }
        }
        wrong += checkSentences();
        System.out.println(tests().size() + " boundary cases, " + looked + " answers looked at, " + wrong + " wrong");
        if (wrong != 0) {
            System.exit(1);
        }
    }

    /** The names of all tests, each with what it found wrong. */
    static Map<String, List<String>> runAll() {
        Map<String, List<String>> found = new LinkedHashMap<>();
        for (Method test : tests()) {
            found.put(test.getName(), run(test).wrong());
        }
        return found;
    }

    private static List<Method> tests() {
        List<Method> found = new ArrayList<>();
        for (Class<?> one : TESTS) {
            for (Method method : one.getDeclaredMethods()) {
                if (method.isAnnotationPresent(Says.class)) {
                    found.add(method);
                }
            }
        }
        found.sort(Comparator.comparingInt((Method m) -> m.getAnnotation(Says.class).promise())
                .thenComparing(Method::getName));
        return found;
    }

    private static Answers run(Method test) {
        Answers answers = new Answers();
        try {
            test.invoke(null, answers);
        } catch (InvocationTargetException e) {
            answers.fail("a call threw " + e.getCause());
        } catch (IllegalAccessException e) {
            answers.fail("the test can't be called: " + e);
        }
        if (answers.looked() == 0) {
            answers.fail("the test looks at no answer");
        }
        return answers;
    }

    private static String told(Method test) {
        Says says = test.getAnnotation(Says.class);
        return "promise " + says.promise() + ", \"" + says.sentence() + "\" (" + says.edge() + "), " + test.getName();
    }

    private static int checkSentences() throws IOException {
        if (!Files.exists(DOCUMENT)) {
            System.out.println("there is no " + DOCUMENT + ": the sentences were not compared with it");
            return 0;
        }
        Document document = new Document(DOCUMENT);
        int wrong = 0;
        for (Method test : tests()) {
            Says says = test.getAnnotation(Says.class);
            if (!document.says(says.promise(), says.sentence())) {
                wrong++;
                System.out.println(told(test) + ": the document doesn't say so there");
            }
        }
        for (int promise = 0; promise <= PROMISES; promise++) {
            for (String sentence : document.sentences(promise)) {
                if (!isTested(promise, sentence)) {
                    wrong++;
                    System.out.println("no test is for the sentence \"" + sentence + "\" of "
                            + (promise == 0 ? "Terms" : "promise " + promise));
                }
            }
        }
        return wrong;
    }

    /** A test names a sentence by all of its words or by some of them. */
    private static boolean isTested(int promise, String sentence) {
        for (Method test : tests()) {
            Says says = test.getAnnotation(Says.class);
            String words = says.sentence().replaceAll("\\.\\)?$", "");
            if ((promise == 0 || says.promise() == promise) && sentence.contains(words)) {
                return true;
            }
        }
        return false;
    }
}
