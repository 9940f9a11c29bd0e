import java.io.IOException;
import java.lang.reflect.InvocationTargetException;
import java.lang.reflect.Method;
import java.nio.charset.StandardCharsets;
import java.nio.file.Files;
import java.nio.file.Path;
import java.util.ArrayList;
import java.util.Arrays;
import java.util.Comparator;
import java.util.List;
import java.util.TreeSet;

/** Runs the tests of the document's sentences, each by itself, and looks whether each promise has some. */
public final class SentenceTests {
    private static final Path DOCUMENT = Path.of("..", "shared", "DOC.md");
    private static final int PROMISES = 55;
    private static final List<Class<?>> TESTS = List.of(
        SentencesOnPeople.class, SentencesOnMinutes.class, SentencesOnRoads.class, SentencesOnSettings.class,
        SentencesInMind.class, SentencesOnPlans.class, SentencesOnOthers.class, SentencesOnNumbers.class,
        SentencesOnImages.class);

    private SentenceTests() { }

    public static void main(String[] args) throws IOException {
        List<Method> tests = new ArrayList<>();
        for (Class<?> one : TESTS) {
            for (Method m : one.getDeclaredMethods()) if (m.isAnnotationPresent(Says.class)) tests.add(m);
        }
        tests.sort(Comparator.comparing((Method m) -> m.getAnnotation(Says.class).promise()).thenComparing(Method::getName));
        TreeSet<Integer> lacking = new TreeSet<>();
        for (int promise = 1; promise <= PROMISES; promise++) lacking.add(promise);
        int failed = 0;
        for (Method test : tests) {
            lacking.remove(test.getAnnotation(Says.class).promise());
            if (!holds(test)) failed++;
        }
        if (!lacking.isEmpty()) System.out.println("no test for the promises " + lacking);
        int strange = strangeQuotations(tests);
        System.out.println(tests.size() + " sentences, " + Due.checked() + " answers looked at, " + failed + " tests failed");
        if (failed + strange + lacking.size() > 0) System.exit(1);
    }

    private static boolean holds(Method test) {
        List<String> faults = new ArrayList<>();
        try {
            test.setAccessible(true);
            test.invoke(null);
        } catch (InvocationTargetException | IllegalAccessException e) {
            faults.add("threw " + e.getCause() + " at " + (e.getCause() == null ? "" : Arrays.toString(e.getCause().getStackTrace())));
        }
        faults.addAll(Due.takeFaults());
        if (faults.isEmpty()) return true;
        Says says = test.getAnnotation(Says.class);
        System.out.println("promise " + says.promise() + ", " + test.getName() + ": \"" + says.sentence() + "\"");
        for (String fault : faults) System.out.println("  " + fault);
        return false;
    }

    /** A test must quote the document as it is now. */
    private static int strangeQuotations(List<Method> tests) throws IOException {
        if (!Files.isReadable(DOCUMENT)) return 0;
        String text = Files.readString(DOCUMENT, StandardCharsets.UTF_8);
        int strange = 0;
        for (Method test : tests) {
            String sentence = test.getAnnotation(Says.class).sentence();
            if (text.contains(sentence)) continue;
            strange++;
            System.out.println(test.getName() + " quotes what the document does not say: " + sentence);
        }
        return strange;
    }
}
