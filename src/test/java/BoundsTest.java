import java.lang.reflect.Method;
import java.nio.file.Files;
import java.nio.file.Path;
import java.util.Map;
import java.util.TreeMap;
import java.util.regex.Matcher;
import java.util.regex.Pattern;

/** Runs the tests of boundary cases, and sees that each promise of the document has some, named after it. */
public final class BoundsTest {
    private static final Class<?>[] TESTS = {BoundsOfChanges.class, BoundsOfTexts.class, BoundsOfLooks.class,
        BoundsOfSearches.class, BoundsOfSurveys.class, BoundsOfGoingBack.class};

    public static void main(String[] args) throws Exception {
        Map<String, Integer> untested = promises(Files.readString(Path.of("../shared/DOC.md")));
        int tests = 0;
        int strange = 0;
        for (Class<?> some : TESTS) {
            for (Method test : Bounds.testsOf(some)) {
                tests++;
                String[] parts = test.getName().split("_");
                String promise = parts.length == 3 ? parts[0] + "_" + parts[1] : test.getName();
                if (!untested.containsKey(promise)) {
                    strange++;
                    System.out.println("not named after a promise: " + test.getName());
                }
                untested.computeIfPresent(promise, (p, many) -> many + 1);
                Bounds.run(test);
            }
        }
        for (Map.Entry<String, Integer> promise : untested.entrySet()) {
            if (promise.getValue() == 0) {
                strange++;
                System.out.println("without a test: " + promise.getKey());
            }
        }
        System.out.println(tests + " boundary cases, " + Bounds.countChecks() + " answers asked for, "
            + Bounds.countWrong() + " not as due");
        if (Bounds.countWrong() + strange != 0) {
            System.exit(1);
        }
    }

    /** The names that tests begin with, from the document's headings; the one that is no call's is of the class. */
    private static Map<String, Integer> promises(String document) {
        Map<String, Integer> found = new TreeMap<>();
        Matcher m = Pattern.compile("(?m)^## Promise (\\d+): (.*)$").matcher(document);
        while (m.find()) {
            String call = m.group(2).contains(" ") ? "LikePages" : m.group(2);
            found.put(String.format("promise%02d_%s", Integer.parseInt(m.group(1)), call), 0);
        }
        if (found.size() != 49) {
            throw new IllegalStateException("the document has " + found.size() + " promises");
        }
        return found;
    }
}
