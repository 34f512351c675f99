import java.lang.reflect.InvocationTargetException;
import java.lang.reflect.Method;
import java.util.ArrayList;
import java.util.Comparator;
import java.util.List;

/**
 * What the tests of boundary cases share. A test is a static method without parameters, named after its promise and
 * the promise's call, then after the case: promise02_put_thereAlready.
 */
abstract class Bounds {
    static final int NONE = -1;
    static final int LEAST = Integer.MIN_VALUE;
    static final int GREATEST = Integer.MAX_VALUE;
    static final int SUM = 2;
    // Neither of these is ever a thing, a place, or a how many.
    static final int[] WRONG = {LEAST, LEAST + 1, -41, -2, 40, 41, 1000, GREATEST - 1, GREATEST};

    private static String running = "";
    private static int wrong = 0;
    private static int checks = 0;

    static int countWrong() {
        return wrong;
    }

    static int countChecks() {
        return checks;
    }

    static List<Method> testsOf(Class<?> tests) {
        List<Method> found = new ArrayList<>();
        for (Method m : tests.getDeclaredMethods()) {
            if (m.getName().startsWith("promise")) {
                found.add(m);
            }
        }
        found.sort(Comparator.comparing(Method::getName));
        return found;
    }

    static void run(Method test) throws IllegalAccessException {
        running = test.getName();
        try {
            test.invoke(null);
        } catch (InvocationTargetException e) {
            wrong++;
            System.out.println(running + ": threw " + e.getCause());
        }
    }

    static void due(String call, long got, long want) {
        checks++;
        if (got != want) {
            wrong++;
            System.out.println(running + ": " + call + " answered " + got + ", due is " + want);
        }
    }

    static void due(String call, boolean got, boolean want) {
        due(call, got ? 1 : 0, want ? 1 : 0);
    }

    static void dueCost(LikePages x, int paid, int spared, int looked, int answered) {
        due("cost 0", x.cost(0), paid);
        due("cost 1", x.cost(1), spared);
        due("cost 2", x.cost(2), looked);
        due("cost 3", x.cost(3), answered);
    }

    // ---- words and trees

    static int w(String text) {
        int word = 0;
        for (char c : text.toCharArray()) {
            word = word * 9 + (c - 'a' + 1);
        }
        return word;
    }

    static void putAll(LikePages x, String words) {
        for (String word : words.split(" ")) {
            x.put(w(word));
        }
    }

    /** The words under edit, with cap 4. */
    static LikePages of(String words) {
        LikePages x = new LikePages();
        putAll(x, words);
        return x;
    }

    /**
     * The words under sum, which makes one letter a place on a line, 1 to 8, and two letters a place in the plane,
     * with ways along its streets: distances that can be seen.
     */
    static LikePages plane(int cap, String words) {
        LikePages x = new LikePages();
        x.measure(SUM);
        x.cap(cap);
        putAll(x, words);
        return x;
    }

    /**
     * Places 1, 3, 8. Of the three put in the root, 0 and 1 as centres would reach 5, 0 and 2 reach 2, 1 and 2 reach 2:
     * 0 and 2. Root: 0 with reach 2 over 0 and 1; 2 with reach 0 over 2.
     */
    static LikePages line() {
        return plane(2, "a c h");
    }

    /**
     * The line, and then place 4. It is beyond 0 by 1, beyond 2 by 4, so it goes to 0, 1, which split into 0 (reach 0)
     * and 1 with 3 (reach 1). The root's 0, 1, 2 split: 0 and 1 would reach 5, 0 and 2 would reach 3 (2 to the 1 that
     * reaches 1), 1 and 2 reach 2: 1 and 2. Pages: 0 the root, 1 with reach 2 and 2 with reach 0; 1: 0 with reach 0 and 1 with reach 1; 2: 0 alone;
     * 3: 1 and 3; 4: 2 with reach 0; 5: 2 alone.
     */
    static LikePages deep() {
        return plane(2, "a c h d");
    }

    /**
     * Places 4 and 3 on the line, 8 on it, and 4 away from it at 8. Split by 0 and 2, both reaches are 4 at most, as they
     * are with other twos that come later. Root: 0 with reach 1 over 0 and 1; 2 with reach 4 over 2 and 3.
     */
    static LikePages unlikeReaches() {
        return plane(3, "d c h hd");
    }

    static LikePages forty() {
        LikePages x = new LikePages();
        for (int n = 0; n < 40; n++) {
            x.put((n / 8 + 1) * 9 + n % 8 + 1);
        }
        return x;
    }

    /** That a refused call has changed nothing that can be seen: ask ahead of it and behind it. */
    static String seen(LikePages x) {
        StringBuilder b = new StringBuilder();
        for (int what = 0; what < 10; what++) {
            b.append(x.is(what)).append(' ');
        }
        b.append("steps ").append(x.steps()).append(" words");
        for (int thing = 0; thing < 40; thing++) {
            int word = x.word(thing);
            b.append(' ').append(word).append(' ').append(word == NONE ? NONE : x.leafOf(thing));
        }
        return b.append(" reaches ").append(x.covers()).append(' ').append(x.mean()).toString();
    }

    static void dueSame(String call, LikePages x, String before) {
        due(call + " changed what is there", seen(x).equals(before), true);
    }

    // ---- texts

    static void type(LikePages x, String text) {
        x.end(0);
        StringBuilder b = new StringBuilder(text);
        while (b.length() % 20 != 0) {
            b.append(';');
        }
        for (int at = 0; at < b.length(); at += 20) {
            int[] five = new int[5];
            for (int i = 0; i < 20; i++) {
                five[i / 4] = five[i / 4] << 8 | b.charAt(at + i) & 255;
            }
            x.feed(five[0], five[1], five[2], five[3], five[4]);
        }
        x.end(text.length());
    }

    static String replies(LikePages x) {
        StringBuilder got = new StringBuilder();
        int many = x.reply(NONE);
        for (int i = 0; i < many; i++) {
            got.append((char) x.reply(i));
        }
        return got.toString();
    }

    static void dueReplies(LikePages x, String text, int count, String want) {
        type(x, text);
        due("perform of " + text, x.perform(), count);
        due("fault of " + text, x.fault(), NONE);
        String got = replies(x);
        due("replies to " + text + ": " + got + ", due is " + want + ": alike", got.equals(want), true);
    }

    static void dueFault(LikePages x, String text, int at) {
        type(x, text);
        due("perform of " + text, x.perform(), NONE);
        due("fault of " + text, x.fault(), at);
        due("replies to " + text, x.reply(NONE), 0);
    }

    static String repeat(String text, String between, int times) {
        StringBuilder b = new StringBuilder(text);
        for (int n = 1; n < times; n++) {
            b.append(between).append(text);
        }
        return b.toString();
    }
}
