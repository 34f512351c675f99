import java.lang.management.ManagementFactory;
import java.util.Random;

/**
 * What a run of 512 calls makes. The room has 600,000 objects and 7.3 million fields and elements; an object
 * takes 16 bytes at the least and a field or element four (but for bytes and booleans, of which there are few), so
 * 8,000,000 bytes would be safe for both. The limit is half of that: states that are not used again go beyond it.
 */
public final class RoomTest {
    private static final long MOST_BYTES = 4_000_000;

    public static void main(String[] args) {
        com.sun.management.ThreadMXBean bean = (com.sun.management.ThreadMXBean) ManagementFactory.getThreadMXBean();
        long most = 0;
        for (int seed = 0; seed < 400; seed++) {
            long before = bean.getThreadAllocatedBytes(Thread.currentThread().getId());
            run(new Random(seed), seed % 4);
            most = Math.max(most, bean.getThreadAllocatedBytes(Thread.currentThread().getId()) - before);
        }
        System.out.println("a run makes " + most + " bytes at the most");
        if (most > MOST_BYTES) {
            System.exit(1);
        }
    }

    /** Pages of two and words alike make the deepest trees; images keep the most states. */
    private static void run(Random random, int style) {
        LikePages x = new LikePages();
        x.cap(2);
        x.measure(random.nextInt(4));
        int letters = 2 + random.nextInt(7);
        int length = 2 + random.nextInt(5);
        for (int n = 0; n < 510; n++) {
            int kind = random.nextInt(20);
            if (style > 0 && n > 80) {
                goBackAndForth(x, style, n);
            } else if (kind == 0) {
                x.image();
            } else if (kind == 1) {
                x.undo();
            } else if (kind < 6) {
                x.drop(random.nextInt(40));
            } else if (kind == 6) {
                x.near(word(random, letters, length), 1 + random.nextInt(40), 0);
            } else {
                x.put(word(random, letters, length));
            }
        }
    }

    /** Steps that are taken back, left by going back, or kept by the image, again and again. */
    private static void goBackAndForth(LikePages x, int style, int n) {
        if (style == 1 && n % 2 == 0) {
            x.undo();
        } else if (style == 2 && n % 4 == 0) {
            x.back();
        } else if (style == 3 && n % 21 == 0) {
            x.image();
        } else {
            x.build();
        }
    }

    private static int word(Random random, int letters, int length) {
        int word = 0;
        for (int n = 1 + random.nextInt(length); n > 0; n--) {
            word = word * 9 + 1 + random.nextInt(letters);
        }
        return word;
    }
}
