import java.lang.reflect.Method;
import java.lang.reflect.Modifier;
import java.nio.file.Files;
import java.nio.file.Path;
import java.util.HashMap;
import java.util.Map;
import java.util.regex.Matcher;
import java.util.regex.Pattern;

/** Runs the calls that README.md shows, each with the answer behind it, and sees that it names every call. */
public final class ReadmeTest {
    private static final String NEW = "LikePages x = new LikePages();";
    private static final Pattern CALL = Pattern.compile("x\\.(\\w+)\\(([^)]*)\\); +// (-?\\d+|true|false): .+");
    private static final Pattern BLOCK = Pattern.compile("(?s)```java\n(.*?)```");
    // A page that shows next to nothing would pass without a word.
    private static final int LEAST_CALLS = 30;

    private static final Map<String, Method> face = new HashMap<>();
    private static int wrong = 0;
    private static int ran = 0;

    public static void main(String[] args) throws Exception {
        for (Method m : LikePages.class.getDeclaredMethods()) {
            if (Modifier.isPublic(m.getModifiers())) {
                face.put(m.getName(), m);
            }
        }
        String page = Files.readString(Path.of("README.md"));
        Matcher block = BLOCK.matcher(page);
        while (block.find()) {
            runBlock(block.group(1));
        }
        for (String name : face.keySet()) {
            if (!page.contains("`" + name + "`")) {
                fail("does not name " + name);
            }
        }
        if (ran < LEAST_CALLS) {
            fail("shows " + ran + " calls alone");
        }
        System.out.println("README.md shows " + ran + " calls, " + wrong + " things are not as due");
        if (wrong != 0) {
            System.exit(1);
        }
    }

    private static void fail(String text) {
        wrong++;
        System.out.println("README.md: " + text);
    }

    private static void runBlock(String block) throws Exception {
        LikePages x = null;
        for (String line : block.split("\n")) {
            if (line.equals(NEW)) {
                x = new LikePages();
                continue;
            }
            Matcher call = CALL.matcher(line);
            if (x == null || !call.matches() || !face.containsKey(call.group(1))) {
                fail("can't be run: " + line);
                continue;
            }
            ran++;
            String got = String.valueOf(face.get(call.group(1)).invoke(x, numbers(call.group(2))));
            if (!got.equals(call.group(3))) {
                fail(line + " answered " + got);
            }
        }
    }

    private static Object[] numbers(String list) {
        String[] parts = list.isEmpty() ? new String[0] : list.split(", ");
        Object[] numbers = new Object[parts.length];
        for (int i = 0; i < parts.length; i++) {
            numbers[i] = Integer.decode(parts[i]);
        }
        return numbers;
    }
}
