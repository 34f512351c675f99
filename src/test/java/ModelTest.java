import java.lang.reflect.InvocationTargetException;
import java.lang.reflect.Method;
import java.util.ArrayList;
import java.util.List;
import java.util.Random;

/** Random runs of calls, each answered by LikePages as Model answers it. */
public final class ModelTest {
    private static final String[] CHANGES = {"put", "put", "put", "put", "put", "put", "drop", "drop", "measure", "cap",
        "tell", "tell", "tell", "wipe", "build", "spell", "spell", "tight", "perform", "perform", "undo", "image", "back"};

    private final Random random;
    private final List<Method> methods = new ArrayList<>();
    private final int letters;
    private final int length;
    private final boolean wild;
    private int deepest;

    private ModelTest(long seed) {
        random = new Random(seed);
        letters = 1 + random.nextInt(8);
        length = 1 + random.nextInt(6);
        wild = random.nextInt(4) == 0;
        for (Method m : LikePages.class.getDeclaredMethods()) {
            if (java.lang.reflect.Modifier.isPublic(m.getModifiers())) {
                methods.add(m);
            }
        }
        methods.sort((a, b) -> a.getName().compareTo(b.getName()));
    }

    public static void main(String[] args) throws Exception {
        int runs = args.length > 0 ? Integer.parseInt(args[0]) : 200;
        long first = args.length > 1 ? Long.parseLong(args[1]) : 1;
        int deepest = 0;
        for (long seed = first; seed < first + runs; seed++) {
            ModelTest test = new ModelTest(seed);
            String wrong = test.run();
            deepest = Math.max(deepest, test.deepest);
            if (wrong != null) {
                System.out.println("seed " + seed + ":\n" + wrong);
                System.exit(1);
            }
        }
        System.out.println(runs + " random runs are as the model's, trees of up to " + deepest + " levels");
    }

    private String run() throws Exception {
        LikePages real = new LikePages();
        Model model = new Model();
        StringBuilder log = new StringBuilder();
        int changes = random.nextInt(60);
        for (int n = 0; n < 500; n++) {
            Method m = choose(n < 60 ? 50 + changes / 2 : changes);
            int[][] calls = m.getName().equals("perform") && random.nextInt(8) > 0 ? sheetCalls() : new int[0][];
            for (int[] call : calls) {
                String wrong = compare(real, model, find(call.length == 5 ? "feed" : "end"), call, log);
                if (wrong != null) {
                    return wrong;
                }
            }
            n += calls.length;
            String wrong = compare(real, model, m, arguments(m, model), log);
            if (wrong != null) {
                return wrong;
            }
        }
        deepest = model.is(3);
        return compareAll(real, model, log);
    }

    private String compareAll(LikePages real, Model model, StringBuilder log) throws Exception {
        for (int what = -1; what <= 10; what++) {
            String wrong = compare(real, model, find("is"), new int[] {what}, log);
            if (wrong != null) {
                return wrong;
            }
        }
        for (int i = 0; i < model.is(1); i++) {
            for (int k = 0; k < 7; k++) {
                for (int what = 0; what < 6; what++) {
                    String wrong = compare(real, model, find("entry"), new int[] {i, k, what}, log);
                    wrong = wrong == null ? compare(real, model, find("page"), new int[] {i, what}, log) : wrong;
                    if (wrong != null) {
                        return wrong;
                    }
                }
            }
        }
        for (int i = -1; i < 401; i++) {
            String wrong = compare(real, model, find("reply"), new int[] {i}, log);
            if (wrong != null) {
                return wrong;
            }
        }
        return null;
    }

    private Method find(String name) {
        for (Method m : methods) {
            if (m.getName().equals(name)) {
                return m;
            }
        }
        throw new IllegalStateException(name);
    }

    private Method choose(int changes) {
        return random.nextInt(100) < changes ? find(CHANGES[random.nextInt(CHANGES.length)])
            : methods.get(random.nextInt(methods.size()));
    }

    private String compare(LikePages real, Model model, Method m, int[] args, StringBuilder log) throws Exception {
        Object[] boxed = new Object[args.length];
        StringBuilder call = new StringBuilder(m.getName()).append('(');
        for (int i = 0; i < args.length; i++) {
            boxed[i] = args[i];
            call.append(i > 0 ? ", " : "").append(args[i]);
        }
        call.append(')');
        Method twin = Model.class.getDeclaredMethod(m.getName(), m.getParameterTypes());
        Object want = twin.invoke(model, boxed);
        Object got;
        try {
            got = m.invoke(real, boxed);
        } catch (InvocationTargetException e) {
            got = e.getCause();
        }
        log.append(call).append(" = ").append(want).append('\n');
        return want.equals(got) ? null : log + call.toString() + " answered " + got + ", due is " + want;
    }

    private int word() {
        if (random.nextInt(12) == 0) {
            int[] odd = {0, -1, 9, 18, 1, 8, 10, 80, 531440, 531441, Integer.MAX_VALUE, Integer.MIN_VALUE, random.nextInt(), random.nextInt(531441)};
            return odd[random.nextInt(odd.length)];
        }
        int word = 0;
        int n = wild ? 1 + random.nextInt(6) : 1 + random.nextInt(length);
        for (int i = 0; i < n; i++) {
            word = word * 9 + 1 + random.nextInt(wild ? 8 : letters);
        }
        return word;
    }

    private int small(int bound) {
        if (random.nextInt(25) == 0) {
            return random.nextBoolean() ? random.nextInt() : random.nextBoolean() ? Integer.MIN_VALUE : Integer.MAX_VALUE;
        }
        return random.nextInt(bound + 3) - 2;
    }

    private int thing(Model model) {
        int t = small(41);
        for (int n = 0; n < 3 && model.word(t) == -1; n++) {
            t = small(41);
        }
        return t;
    }

    private int farTo() {
        int n = random.nextInt(10);
        return n < 6 ? random.nextInt(8) : n < 8 ? random.nextInt(50) : small(101);
    }

    private int index() {
        return random.nextInt(3) == 0 ? -1 : random.nextBoolean() ? random.nextInt(6) : small(45);
    }

    private int[] arguments(Method m, Model model) {
        switch (m.getName()) {
            case "put": case "thing": case "letters":
                return new int[] {word()};
            case "drop": case "word": case "leafOf": case "chainLong":
                return new int[] {thing(model)};
            case "measure": case "broken": case "pair":
                return new int[] {small(5)};
            case "cap":
                return new int[] {random.nextInt(3) == 0 ? 2 : small(8)};
            case "tell":
                return new int[] {thing(model), thing(model), farTo()};
            case "spell":
                return new int[] {thing(model), word()};
            case "feed":
                return new int[] {random.nextInt(), random.nextInt(), random.nextInt(), random.nextInt(), random.nextInt()};
            case "end":
                return new int[] {random.nextBoolean() ? 0 : small(310)};
            case "reply":
                return new int[] {random.nextInt(3) == 0 ? -1 : small(410)};
            case "is":
                return new int[] {small(11)};
            case "apart":
                return new int[] {word(), word()};
            case "far":
                return new int[] {thing(model), thing(model)};
            case "page":
                return new int[] {small(model.is(1) + 1), small(7)};
            case "entry":
                return new int[] {small(model.is(1) + 1), small(7), small(5)};
            case "within":
                return new int[] {word(), farTo(), index()};
            case "around":
                return new int[] {thing(model), farTo(), index()};
            case "near": case "farthest":
                return new int[] {word(), small(random.nextBoolean() ? 6 : 42), index()};
            case "beside":
                return new int[] {thing(model), small(random.nextBoolean() ? 6 : 42), index()};
            case "cost":
                return new int[] {small(5)};
            case "scan":
                return new int[] {word(), farTo()};
            case "breaks":
                return new int[] {small(5), small(4)};
            case "couple":
                return new int[] {farTo(), random.nextBoolean() ? index() : small(800)};
            case "spaced":
                return new int[] {farTo()};
            case "pivot":
                return new int[] {small(42)};
            case "letter":
                return new int[] {thing(model), small(7)};
            case "groups":
                return new int[] {farTo(), random.nextInt(3) == 0 ? -1 : thing(model)};
            case "chain":
                return new int[] {thing(model), small(42)};
            default:
                return new int[0];
        }
    }

    // ---- texts

    private String letterWord() {
        StringBuilder b = new StringBuilder();
        int n = 1 + random.nextInt(random.nextInt(30) == 0 ? 8 : length);
        for (int i = 0; i < n; i++) {
            b.append((char) ('a' + random.nextInt(random.nextInt(60) == 0 ? 26 : letters)));
        }
        return b.toString();
    }

    private String digits() {
        int n = random.nextInt(10);
        return n == 0 ? "" + random.nextInt(2000) : n == 1 ? "00" + random.nextInt(10) : n == 2 ? "" + random.nextInt(110) : "" + random.nextInt(8);
    }

    private String gap(boolean need) {
        return random.nextInt(4) == 0 ? "  " : need && random.nextInt(40) > 0 || random.nextInt(4) == 0 ? " " : "";
    }

    private String command() {
        switch (random.nextInt(10)) {
            case 0: case 1: case 2:
                return "put" + gap(true) + letterWord();
            case 3:
                return "drop" + gap(true) + letterWord();
            case 4:
                return "near" + gap(true) + letterWord() + gap(false) + digits();
            case 5:
                return "within" + gap(true) + letterWord() + gap(false) + digits();
            case 6:
                return "measure" + gap(true) + new String[] {"edit", "place", "sum", "head", "heads"}[random.nextInt(random.nextInt(20) == 0 ? 5 : 4)];
            case 7:
                return "cap" + gap(false) + digits();
            case 8:
                return "far" + gap(true) + letterWord() + gap(true) + letterWord();
            default:
                return "size";
        }
    }

    private int[][] sheetCalls() {
        StringBuilder b = new StringBuilder(gap(false));
        int n = 1 + random.nextInt(random.nextInt(3) == 0 ? 40 : 8);
        for (int i = 0; i < n; i++) {
            b.append(i > 0 ? gap(false) + ";" + gap(false) : "").append(command());
        }
        b.append(gap(false));
        while (random.nextInt(8) == 0) {
            b.setCharAt(random.nextInt(b.length()), (char) (random.nextBoolean() ? random.nextInt(256) : "; 1az".charAt(random.nextInt(5))));
        }
        if (b.length() > 300) {
            b.setLength(300);
        }
        int size = b.length();
        while (b.length() % 20 != 0) {
            b.append((char) random.nextInt(256));
        }
        int[][] calls = new int[b.length() / 20 + 2][];
        calls[0] = new int[] {0};
        for (int c = 0; c < b.length() / 20; c++) {
            calls[c + 1] = new int[5];
            for (int i = 0; i < 20; i++) {
                calls[c + 1][i / 4] = calls[c + 1][i / 4] << 8 | b.charAt(c * 20 + i);
            }
        }
        calls[calls.length - 1] = new int[] {size};
        return calls;
    }
}
