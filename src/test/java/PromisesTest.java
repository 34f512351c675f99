/** One method a promise: ordinary inputs, the edges that the document names, wrong inputs; the answers were worked out by hand. */
public final class PromisesTest {
    private static final int NONE = -1;
    private static int wrong = 0;
    private static int checks = 0;
    private static int promise = 0;

    public static void main(String[] args) {
        first();
        trees();
        sheets();
        looks();
        searches();
        surveys();
        goingBack();
        System.out.println(checks + " answers asked for, " + wrong + " not as due");
        if (wrong != 0) {
            System.exit(1);
        }
    }

    private static void due(String call, long got, long want) {
        checks++;
        if (got != want) {
            wrong++;
            System.out.println("promise " + promise + ": " + call + " answered " + got + ", due is " + want);
        }
    }

    private static void due(String call, boolean got, boolean want) {
        due(call, got ? 1 : 0, want ? 1 : 0);
    }

    private static int w(String text) {
        int word = 0;
        for (char c : text.toCharArray()) {
            word = word * 9 + (c - 'a' + 1);
        }
        return word;
    }

    private static LikePages of(String... words) {
        LikePages x = new LikePages();
        for (String word : words) {
            x.put(w(word));
        }
        return x;
    }

    /** Five words in three pages: a root over 0 with 0, 1, 3 and 2 with 2, 4, both of reach 2. */
    private static LikePages five() {
        return of("abc", "abd", "ab", "bbb", "hh");
    }

    private static LikePages forty() {
        LikePages x = new LikePages();
        for (int n = 0; n < 40; n++) {
            x.put((n / 8 + 1) * 9 + n % 8 + 1);
        }
        return x;
    }

    private static void type(LikePages x, String text) {
        x.end(0);
        StringBuilder b = new StringBuilder(text);
        while (b.length() % 20 != 0) {
            b.append(';');
        }
        for (int at = 0; at < b.length(); at += 20) {
            int[] five = new int[5];
            for (int i = 0; i < 20; i++) {
                five[i / 4] = five[i / 4] << 8 | b.charAt(at + i);
            }
            x.feed(five[0], five[1], five[2], five[3], five[4]);
        }
        x.end(text.length());
    }

    private static void dueReplies(LikePages x, String text, int count, String want) {
        type(x, text);
        due("perform of " + text, x.perform(), count);
        due("fault of " + text, x.fault(), NONE);
        StringBuilder got = new StringBuilder();
        for (int i = 0; i < x.reply(NONE); i++) {
            got.append((char) x.reply(i));
        }
        due("replies to " + text + ": " + got + ", due is " + want, got.toString().equals(want), true);
    }

    private static void dueFault(LikePages x, String text, int at) {
        type(x, text);
        due("perform of " + text, x.perform(), NONE);
        due("fault of " + text, x.fault(), at);
        due("replies to " + text, x.reply(NONE), 0);
    }

    // ---- 1 to 10

    private static void first() {
        promise = 1;
        LikePages x = new LikePages();
        int[] is = {0, 1, 1, 1, 0, 4, 0, 0, 0, 0};
        for (int what = 0; what < 10; what++) {
            due("is " + what, x.is(what), is[what]);
        }
        due("steps", x.steps(), 0);
        x.put(w("a"));
        x.measure(3);
        x.cap(6);
        due("back", x.back(), 0);
        due("measure", x.is(4), 0);
        due("cap", x.is(5), 4);
        due("thing", x.thing(w("a")), NONE);

        promise = 2;
        x = new LikePages();
        due("put", x.put(w("a")), 0);
        due("put", x.put(w("hhhhhh")), 1);
        due("put, there already", x.put(w("a")), NONE);
        int[] none = {0, -1, 9, 10 * 9, 531441, Integer.MIN_VALUE, Integer.MAX_VALUE, 2 * 81 + 3, 100000000};
        for (int word : none) {
            due("put " + word, x.put(word), NONE);
        }
        due("steps", x.steps(), 2);
        due("put", x.put(w("b")), 2);
        x.drop(1);
        due("put, the least free", x.put(w("c")), 1);
        x = forty();
        due("forty", x.is(0), 40);
        due("put, the 41st", x.put(w("abcdef")), NONE);
        x.drop(17);
        due("put in the gap", x.put(w("abcdef")), 17);

        promise = 3;
        x = five();
        due("drop", x.drop(1), true);
        due("drop, gone", x.drop(1), false);
        due("drop -1", x.drop(-1), false);
        due("drop 40", x.drop(40), false);
        due("drop of the least", x.drop(Integer.MIN_VALUE), false);
        due("no centre: pages stay", x.is(1), 3);
        due("no centre: the leaf", x.page(1, 1), 2);
        due("no centre: order", x.entry(1, 1, 0), 3);
        due("no centre: reach stays", x.entry(0, 0, 1), 2);
        due("drop of a centre", x.drop(2), true);
        due("a centre: built anew", x.is(1), 1);
        due("a centre: entries", x.is(7), 3);
        x = of("a", "b", "c");
        x.tell(0, 1, 5);
        x.tell(1, 2, 6);
        x.tell(2, 0, 7);
        x.drop(1);
        due("told ones of it are gone", x.is(6), 1);
        due("told ones of others stay", x.far(2, 0), 7);
        x.put(w("b"));
        due("not told of the next one", x.far(0, 1), 1);
        x = of("a");
        x.drop(0);
        due("a root without entries", x.is(7), 0);
        due("is a leaf", x.page(0, 0), 1);

        promise = 4;
        x = of("abc", "acbh");
        int[] fars = {2, 3, 10, 6};
        for (int m = 3; m >= 0; m--) {
            due("measure", x.measure(m), true);
            due("which", x.is(4), m);
            due("far by " + m, x.far(0, 1), fars[m]);
        }
        due("measure -1", x.measure(-1), false);
        due("measure 4", x.measure(4), false);
        due("steps", x.steps(), 6);
        x = five();
        x.drop(1);
        x.measure(0);
        due("built", x.is(1), 1);

        promise = 5;
        x = five();
        due("cap", x.cap(5), true);
        due("built", x.is(1), 1);
        due("cap 2", x.cap(2), true);
        due("which", x.is(5), 2);
        due("a page has 2 at most", x.page(0, 1), 2);
        due("cap 6", x.cap(6), true);
        due("cap 1", x.cap(1), false);
        due("cap 7", x.cap(7), false);
        due("still", x.is(5), 6);
        due("steps", x.steps(), 8);
        x = five();
        x.drop(1);
        x.cap(4);
        due("built by the same cap", x.is(1), 1);

        told();
    }

    private static void told() {
        promise = 6;
        LikePages x = five();
        due("tell", x.tell(0, 1, 99), 1);
        due("far", x.far(0, 1), 99);
        due("not the other way", x.far(1, 0), 1);
        due("tell the other way", x.tell(1, 0, 0), 2);
        due("in its place", x.tell(0, 1, 3), 2);
        due("far", x.far(0, 1), 3);
        int[][] none = {{0, 0, 5}, {0, 5, 5}, {5, 0, 5}, {-1, 0, 5}, {0, -1, 5}, {40, 0, 1}, {0, 40, 1}, {0, 1, -1}, {0, 1, 100}};
        for (int[] t : none) {
            due("tell " + t[0] + " " + t[1] + " " + t[2], x.tell(t[0], t[1], t[2]), NONE);
        }
        due("steps", x.steps(), 8);
        x = five();
        int n = 0;
        for (int a = 0; a < 5; a++) {
            for (int b = 0; b < 5; b++) {
                if (a != b && n < 16) {
                    due("tell", x.tell(a, b, 7), ++n);
                }
            }
        }
        due("a seventeenth", x.tell(4, 3, 7), NONE);
        due("one in its place", x.tell(0, 1, 8), 16);
        due("told", x.is(6), 16);
        x = five();
        x.drop(1);
        x.tell(0, 2, 1);
        due("built", x.is(1), 1);

        promise = 7;
        due("wipe", x.wipe(), 1);
        due("wipe again", x.wipe(), 0);
        due("steps", x.steps(), 9);
        x = five();
        x.drop(1);
        due("wipe of none", x.wipe(), 0);
        due("is built, too", x.is(1), 1);

        promise = 8;
        x = five();
        due("build", x.build(), 3);
        x.drop(1);
        due("build of four", x.build(), 1);
        due("steps", x.steps(), 8);
        due("of none", new LikePages().build(), 1);

        promise = 9;
        x = five();
        x.tell(1, 3, 9);
        due("spell", x.spell(1, w("hg")), true);
        due("its number", x.thing(w("hg")), 1);
        due("its old word", x.thing(w("abd")), NONE);
        due("told ones are gone", x.is(6), 0);
        due("things", x.is(0), 5);
        due("in the page of 2", x.leafOf(1), 2);
        due("behind all others", x.entry(2, 2, 0), 1);
        due("its own word", x.spell(1, w("hg")), false);
        due("another's word", x.spell(1, w("ab")), false);
        due("no word", x.spell(1, 9), false);
        due("no thing", x.spell(5, w("a")), false);
        due("no thing", x.spell(-1, w("a")), false);
        due("a centre", x.spell(0, w("gggggg")), true);
        due("is put last", x.entry(x.leafOf(0), x.page(x.leafOf(0), 1) - 1, 0), 0);
        due("steps", x.steps(), 8);

        promise = 10;
        x = five();
        due("tight already", x.tight(), 0);
        x.drop(3);
        due("tight", x.tight(), 1);
        due("reach", x.entry(0, 0, 1), 1);
        due("reach of the other", x.entry(0, 1, 1), 2);
        due("covers", x.covers(), true);
        due("steps", x.steps(), 8);
        due("of a leaf", of("a", "h").tight(), 0);
        x = uncovered();
        due("reaches may be more", x.tight(), -1);
        due("it covers then", x.covers(), true);
    }

    /** A root over 0 (reach 0; its pages: 0 alone, 1 and 3) and 2, though 3 is 1 from 0. */
    private static LikePages uncovered() {
        LikePages x = of("f", "e", "a", "c");
        x.cap(2);
        x.tell(0, 1, 0);
        x.tell(1, 3, 0);
        return x;
    }

    /** The tree's own rules: where things are put, how pages are split. */
    private static void trees() {
        promise = 2;
        LikePages x = five();
        due("one that both reach goes to the nearest", x.put(w("hb")), 5);
        due("leaf", x.leafOf(5), 2);
        x.put(w("abcdefgh".substring(0, 6)));
        due("beyond both by 1 and 2: the one it is less beyond", x.leafOf(6), 1);
        due("its reach is more then", x.entry(0, 0, 1), 3);

        // Of like ones the first: all letters are 1 apart, so the first two are the centres.
        x = of("a", "b", "c", "d", "e");
        due("i", x.entry(0, 0, 0), 0);
        due("j", x.entry(0, 1, 0), 1);
        due("like ones go to i", x.page(1, 1), 4);
        due("j alone", x.page(2, 1), 1);
        due("reach of i", x.entry(0, 0, 1), 1);
        due("reach of j", x.entry(0, 1, 1), 0);
        x.put(w("f"));
        due("within reach of the first", x.page(0, 1), 3);
        due("the new one right behind", x.entry(0, 1, 0), 2);
        due("and ahead of the other", x.entry(0, 2, 0), 1);
        due("in the order of the pages", x.entry(0, 2, 3), 3);

        // Three levels by cap 2, worked out step by step.
        x = uncovered();
        due("levels", x.is(3), 3);
        due("pages", x.is(1), 6);
        due("leaves", x.is(2), 3);
        due("root's first", x.entry(0, 0, 0), 0);
        due("root's second", x.entry(0, 1, 0), 2);
        due("page 1 has two", x.page(1, 1), 2);
        due("page 4 has one", x.page(4, 1), 1);
        due("page 4 is inner", x.page(4, 0), 0);
        due("3 is with 1", x.leafOf(3), x.leafOf(1));
    }

    // ---- 11 to 16

    private static void sheets() {
        promise = 11;
        LikePages x = new LikePages();
        for (int n = 1; n <= 15; n++) {
            due("feed", x.feed(0x73697a65, 0x20202020, 0x20202020, 0x20202020, 0x20202020), 20 * n);
        }
        due("feed beyond 300", x.feed(0, 0, 0, 0, 0), NONE);
        due("none came", x.end(301), NONE);
        due("it has 300", x.end(300), 300);
        x.end(281);
        due("feed beyond 300", x.feed(0, 0, 0, 0, 0), NONE);
        x.end(280);
        due("feed up to 300", x.feed(0, 0, 0, 0, 0), 300);
        x = new LikePages();
        x.feed(0x20202020, 0x2073697a, 0x65202020, 0x20202020, 0x20202020);
        due("the highest byte first", x.perform(), 1);
        x.feed(0x73697a65, 0xff202020, 0, 0, 0);
        due("a byte of 255", x.perform(), NONE);
        due("fault", x.fault(), 4);

        promise = 12;
        x = new LikePages();
        due("end 0", x.end(0), 0);
        due("end 1", x.end(1), NONE);
        due("end -1", x.end(-1), NONE);
        x.feed(0x73697a65, 0x3b3b3b3b, 0, 0, 0);
        due("end 21", x.end(21), NONE);
        due("end 20", x.end(20), 20);
        due("end of the least", x.end(Integer.MIN_VALUE), NONE);
        due("end 4", x.end(4), 4);
        due("its first bytes alone", x.perform(), 1);
        due("empty then", x.end(1), NONE);

        performs();

        promise = 16;
        undoes();
    }

    private static void performs() {
        promise = 13;
        LikePages x = new LikePages();
        dueReplies(x, "put abc;put abd;put ab;put bbb;put hh;size", 6, "0;1;2;3;4;5");
        due("steps: a text as one", x.steps(), 1);
        dueReplies(x, "near hh 1;within abc 1;within hhhhhh 2;near hh 3", 4, "4;0,1,2;-;4,2,0");
        due("steps", x.steps(), 2);
        dueReplies(x, "put abc;drop h;cap 1;cap 7;near a 0;near a 41;within a 100;within a 999", 8, "no;no;no;no;no;no;no;no");
        dueReplies(x, "near a 40", 1, "2,0,1,4,3");
        dueReplies(x, "drop bbb;drop bbb", 2, "3;no");
        dueReplies(x, "measure sum;far abc acbh;measure place;far abc acbh;measure head;far abc acbh;measure edit;far abc acbh", 8, "ok;10;ok;3;ok;6;ok;2");
        due("measure", x.is(4), 0);
        dueReplies(x, "cap2;cap006", 2, "ok;ok");
        due("cap", x.is(5), 6);
        dueReplies(x, "   near ab2   ;size ;   far a a  ", 3, "2,0;4;0");
        dueReplies(x, "put head;measure head;put hhhhhh", 3, "3;ok;5");
        x.tell(0, 1, 77);
        dueReplies(x, "far abc abd", 1, "5");
        x = new LikePages();
        dueReplies(x, "within a 99;near a 1", 2, "-;-");
        dueReplies(forty(), "put abcdef", 1, "no");
        StringBuilder many = new StringBuilder("size");
        for (int n = 1; n < 60; n++) {
            many.append(";size");
        }
        type(x, many.toString());
        due("sixty", x.perform(), 60);
        due("a step, though nothing is other", x.steps(), 2);
        due("end, the sheet is empty", x.end(1), NONE);

        promise = 14;
        due("no fault", new LikePages().fault(), NONE);
        x = five();
        dueFault(x, "", 0);
        dueFault(x, "   ", 3);
        dueFault(x, "putabc", 0);
        dueFault(x, "put", 3);
        dueFault(x, "put  ", 5);
        dueFault(x, "put a;", 6);
        dueFault(x, "put a; ", 7);
        dueFault(x, "put a;;size", 6);
        dueFault(x, ";size", 0);
        dueFault(x, "put abcdefg", 4);
        dueFault(x, "put abi", 4);
        dueFault(x, "put 5", 4);
        dueFault(x, "near ab", 7);
        dueFault(x, "near ab c", 8);
        dueFault(x, "near ab;", 7);
        dueFault(x, "near ab 1000", 8);
        dueFault(x, "near ab 12 3", 11);
        dueFault(x, "near ab 12size", 10);
        dueFault(x, "cap a", 4);
        dueFault(x, "cap -1", 4);
        dueFault(x, "far ab", 6);
        dueFault(x, "far ab 1", 7);
        dueFault(x, "measure edits", 8);
        dueFault(x, "measure 1", 8);
        dueFault(x, "measure", 7);
        dueFault(x, "size size", 5);
        dueFault(x, "Size", 0);
        dueFault(x, "size\t", 4);
        dueFault(x, "12", 0);
        dueFault(x, " sizes", 1);
        dueFault(x, "size;put a;drop abc;x", 20);
        due("a text with a fault does nothing", x.is(0), 5);
        due("and is no step", x.steps(), 5);
        type(x, many + ";");
        due("a text of 300 that ends too early", x.perform(), NONE);
        due("fault", x.fault(), 300);
        due("the sheet is empty", x.end(1), NONE);
        dueReplies(x, "size", 1, "5");

        promise = 15;
        due("how many", x.reply(NONE), 1);
        due("byte 0", x.reply(0), '5');
        due("byte 1", x.reply(1), NONE);
        due("byte -2", x.reply(-2), NONE);
        due("ahead of any", new LikePages().reply(NONE), 0);
        due("ahead of any", new LikePages().reply(0), NONE);
        x = forty();
        type(x, "near aa 40;near aa 40;near aa 40;near aa 40;size");
        due("perform", x.perform(), 5);
        due("the first 400 bytes", x.reply(NONE), 400);
        due("byte 399", x.reply(399) != NONE, true);
        due("byte 400", x.reply(400), NONE);
        due("the first found", x.reply(0), '0');
        // 10 numbers of one digit, 30 of two, 39 commas.
        due("between the first two", x.reply(109), ';');
    }

    private static void undoes() {
        LikePages x = new LikePages();
        due("undo of none", x.undo(), NONE);
        x = five();
        due("undo", x.undo(), 4);
        due("things", x.is(0), 4);
        due("pages", x.is(1), 1);
        x = five();
        x.drop(2);
        due("undo of drop", x.undo(), 5);
        due("pages", x.is(1), 3);
        due("its leaf", x.leafOf(2), 2);
        x.tell(0, 1, 50);
        x.wipe();
        x.undo();
        due("undo of wipe", x.far(0, 1), 50);
        x.undo();
        due("undo of tell", x.far(0, 1), 1);
        x.measure(2);
        x.cap(6);
        x.undo();
        due("undo of cap", x.is(5), 4);
        x.undo();
        due("undo of measure", x.is(4), 0);
        x.drop(3);
        x.tight();
        due("tight", x.entry(0, 0, 1), 1);
        x.undo();
        due("undo of tight", x.entry(0, 0, 1), 2);
        x.build();
        due("build", x.is(1), 1);
        x.undo();
        due("undo of build", x.is(1), 3);
        x.spell(0, w("g"));
        x.undo();
        due("undo of spell", x.word(0), w("abc"));
        dueReplies(x, "drop abc;drop ab;cap 3;measure head;near hh 2", 5, "0;2;ok;ok;4,1");
        due("undo of a text", x.undo(), 6);
        due("things", x.is(0), 4);
        due("cap", x.is(5), 4);
        due("measure", x.is(4), 0);
        due("replies stay", x.reply(NONE), 13);
        due("cost stays", x.cost(3), 2);
        due("fault stays", x.fault(), NONE);
        type(x, "size");
        x.undo();
        due("the sheet stays", x.end(4), 4);
        x = new LikePages();
        for (int n = 1; n <= 8; n++) {
            for (int m = 1; m <= 3; m++) {
                x.put(n * 9 + m);
            }
        }
        due("steps", x.steps(), 20);
        for (int n = 19; n >= 0; n--) {
            due("undo", x.undo(), n);
        }
        due("no more than 20", x.undo(), NONE);
        due("things", x.is(0), 4);
    }

    // ---- 17 to 25

    private static void looks() {
        promise = 17;
        LikePages x = five();
        x.tell(4, 0, 3);
        int[] is = {5, 3, 2, 2, 0, 4, 1, 7, 1, 4};
        for (int what = 0; what < 10; what++) {
            due("is " + what, x.is(what), is[what]);
        }
        due("is -1", x.is(-1), NONE);
        due("is 10", x.is(10), NONE);
        x = of("aaaaaa", "hhhhhh", "bbbbbb");
        x.cap(2);
        x.measure(2);
        // 0 and 2 are 6 apart, 1 is 36 and 42 away: no overlap.
        due("overlaps", x.is(8), 0);
        due("reaches", x.is(9), 6);

        promise = 18;
        x = five();
        due("word", x.word(3), w("bbb"));
        due("word 5", x.word(5), NONE);
        due("word -1", x.word(-1), NONE);
        due("word 40", x.word(40), NONE);

        promise = 19;
        due("thing", x.thing(w("hh")), 4);
        due("thing of a word of none", x.thing(w("h")), NONE);
        due("thing of no word", x.thing(0), NONE);
        due("thing of no word", x.thing(9), NONE);
        due("thing of no word", x.thing(-5), NONE);

        promise = 20;
        due("letters", x.letters(w("a")), 1);
        due("letters", x.letters(w("hhhhhh")), 6);
        due("letters", x.letters(8 * 9 + 8), 2);
        for (int word : new int[] {0, -1, 9, 81, 82, 531441, Integer.MAX_VALUE, Integer.MIN_VALUE}) {
            due("letters " + word, x.letters(word), NONE);
        }

        promise = 21;
        due("like ones", x.apart(w("abc"), w("abc")), 0);
        due("edit", x.apart(w("abcdef"), w("bcdefa")), 2);
        due("edit", x.apart(w("a"), w("hhhhhh")), 6);
        due("edit", x.apart(w("aaab"), w("baaa")), 2);
        due("no word", x.apart(0, w("a")), NONE);
        due("no word", x.apart(w("a"), 9), NONE);
        x.measure(1);
        due("place", x.apart(w("abcdef"), w("bcdefa")), 6);
        due("place", x.apart(w("abc"), w("ab")), 1);
        due("place", x.apart(w("a"), w("hhhhhh")), 6);
        x.measure(2);
        due("sum", x.apart(w("hhhhhh"), w("a")), 47);
        due("sum", x.apart(w("abc"), w("ab")), 3);
        due("sum", x.apart(w("ab"), w("ba")), 2);
        x.measure(3);
        due("head", x.apart(w("abc"), w("abc")), 0);
        due("head", x.apart(w("abc"), w("ab")), 5);
        due("head", x.apart(w("hab"), w("ab")), 7);
        due("head", x.apart(w("aaaaaa"), w("aaaaa")), 2);
        due("head", x.apart(w("aaaaaa"), w("aaaaab")), 2);

        promise = 22;
        x = five();
        due("far", x.far(0, 4), 3);
        due("to itself", x.far(3, 3), 0);
        x.tell(0, 4, 42);
        due("told", x.far(0, 4), 42);
        due("not by words", x.apart(w("abc"), w("hh")), 3);
        x.measure(1);
        due("told, by any measure", x.far(0, 4), 42);
        due("no thing", x.far(0, 5), NONE);
        due("no thing", x.far(-1, 0), NONE);
        due("no thing", x.far(40, 40), NONE);

        pages();
    }

    private static void pages() {
        promise = 23;
        LikePages x = five();
        int[][] pages = {{0, 2, -1, -1, 0, 5}, {1, 3, 0, 2, 1, 3}, {1, 2, 2, 2, 1, 2}};
        for (int i = 0; i < 3; i++) {
            for (int what = 0; what < 6; what++) {
                due("page " + i + " " + what, x.page(i, what), pages[i][what]);
            }
        }
        due("page 3", x.page(3, 0), -2);
        due("page -1", x.page(-1, 0), -2);
        due("what 6", x.page(0, 6), -2);
        due("what -1", x.page(0, -1), -2);
        x = uncovered();
        int[][] deep = {{0, 2, -1, -1, 0, 4}, {0, 2, 0, 0, 1, 3}, {1, 1, 0, 0, 2, 1}, {1, 2, 1, 0, 2, 2}, {0, 1, 2, 0, 1, 1}, {1, 1, 2, 0, 2, 1}};
        for (int i = 0; i < 6; i++) {
            for (int what = 0; what < 6; what++) {
                due("page " + i + " " + what, x.page(i, what), deep[i][what]);
            }
        }

        promise = 24;
        int[][] first = {{0, 0, 0, 1}, {0, 0, 0, 2}, {0, 0, 0, -1}, {1, 0, 0, -1}, {2, 0, 0, 5}, {2, 0, 0, -1}};
        for (int i = 0; i < 6; i++) {
            for (int what = 0; what < 4; what++) {
                due("entry " + i + " 0 " + what, x.entry(i, 0, what), first[i][what]);
            }
        }
        x = five();
        due("reach", x.entry(0, 0, 1), 2);
        due("way", x.entry(1, 2, 2), 2);
        due("way in the root", x.entry(0, 1, 2), 0);
        x.tell(0, 1, 1);
        x.tell(0, 3, 2);
        due("way is told", x.entry(1, 1, 2), 1);
        due("the page below", x.entry(0, 1, 3), 2);
        due("k", x.entry(0, 2, 0), -2);
        due("k", x.entry(0, -1, 0), -2);
        due("i", x.entry(3, 0, 0), -2);
        due("i", x.entry(-1, 0, 0), -2);
        due("what", x.entry(0, 0, 4), -2);
        due("what", x.entry(0, 0, -1), -2);

        promise = 25;
        x = uncovered();
        due("leaf of 0", x.leafOf(0), 2);
        due("leaf of 1", x.leafOf(1), 3);
        due("leaf of 2", x.leafOf(2), 5);
        due("leaf of 3", x.leafOf(3), 3);
        due("no thing", x.leafOf(4), NONE);
        due("no thing", x.leafOf(-1), NONE);
        due("no thing", x.leafOf(40), NONE);
    }

    // ---- 26 to 32

    private static void dueCost(LikePages x, int paid, int spared, int looked, int answered) {
        due("cost 0", x.cost(0), paid);
        due("cost 1", x.cost(1), spared);
        due("cost 2", x.cost(2), looked);
        due("cost 3", x.cost(3), answered);
    }

    private static void searches() {
        promise = 26;
        LikePages x = five();
        due("within", x.within(w("abc"), 1, NONE), 3);
        for (int i = 0; i < 3; i++) {
            due("found " + i, x.within(w("abc"), 1, i), i);
        }
        due("no fourth", x.within(w("abc"), 1, 3), NONE);
        due("i -2", x.within(w("abc"), 1, -2), NONE);
        due("r 99", x.within(w("g"), 99, NONE), 5);
        due("by far, then numbers", x.within(w("hhh"), 99, 0), 4);
        due("by far, then numbers", x.within(w("hhh"), 99, 1), 0);
        due("r 0", x.within(w("bbb"), 0, NONE), 1);
        due("r -1", x.within(w("abc"), -1, NONE), NONE);
        due("r 100", x.within(w("abc"), 100, NONE), NONE);
        due("no word", x.within(9, 1, NONE), NONE);

        promise = 27;
        due("around", x.around(2, 1, NONE), 3);
        due("it, too", x.around(2, 1, 0), 2);
        due("then 0", x.around(2, 1, 1), 0);
        x.tell(2, 0, 30);
        x.tell(0, 2, 1);
        // 1 is 1 away, but in the page of 0, which is told to be 30 away: one does not go there.
        due("told from it", x.around(2, 1, NONE), 1);
        due("far", x.far(2, 1), 1);
        due("not told to it", x.around(0, 1, NONE), 3);
        due("r", x.around(2, -1, NONE), NONE);
        due("r", x.around(2, 100, NONE), NONE);
        due("no thing", x.around(5, 1, NONE), NONE);
        due("no thing", x.around(-1, 1, NONE), NONE);

        promise = 28;
        x = five();
        due("near", x.near(w("hh"), 1, 0), 4);
        due("near, how many", x.near(w("hh"), 3, NONE), 3);
        due("fewer than k", x.near(w("hh"), 40, NONE), 5);
        // hb: hh and ab are 1 away, bbb is 2, abc and abd are 2: of like ones the least numbers.
        int[] hb = {2, 4, 0, 1, 3};
        for (int i = 0; i < 5; i++) {
            due("near hb " + i, x.near(w("hb"), 5, i), hb[i]);
        }
        due("no sixth", x.near(w("hb"), 40, 5), NONE);
        due("i -2", x.near(w("hb"), 40, -2), NONE);
        due("k 0", x.near(w("hb"), 0, NONE), NONE);
        due("k 41", x.near(w("hb"), 41, NONE), NONE);
        due("no word", x.near(0, 1, NONE), NONE);

        promise = 29;
        due("beside", x.beside(3, 2, 0), 3);
        due("beside", x.beside(3, 2, 1), 0);
        x.tell(3, 4, 0);
        due("told from it", x.beside(3, 2, 1), 4);
        due("k 0", x.beside(3, 0, NONE), NONE);
        due("k 41", x.beside(3, 41, NONE), NONE);
        due("no thing", x.beside(5, 1, NONE), NONE);
        due("no thing", x.beside(40, 1, NONE), NONE);

        promise = 30;
        x = five();
        due("farthest", x.farthest(w("abc"), 2, NONE), 2);
        int[] away = {4, 3, 1, 2, 0};
        for (int i = 0; i < 5; i++) {
            due("farthest " + i, x.farthest(w("abc"), 40, i), away[i]);
        }
        due("no sixth", x.farthest(w("abc"), 40, 5), NONE);
        due("k 0", x.farthest(w("abc"), 0, NONE), NONE);
        due("k 41", x.farthest(w("abc"), 41, NONE), NONE);
        due("no word", x.farthest(-1, 1, NONE), NONE);

        costs();

        promise = 32;
        x = five();
        due("scan", x.scan(w("abc"), 1), 3);
        due("scan 0", x.scan(w("g"), 0), 0);
        due("scan 99", x.scan(w("g"), 99), 5);
        x.tell(0, 1, 50);
        due("by the measure", x.scan(w("abc"), 1), 3);
        due("r", x.scan(w("abc"), -1), NONE);
        due("r", x.scan(w("abc"), 100), NONE);
        due("no word", x.scan(10 * 9, 1), NONE);
        due("it is no search", x.cost(0), NONE);
    }

    private static void costs() {
        promise = 31;
        LikePages x = five();
        due("ahead of any", x.cost(0), NONE);
        x.within(9, 1, NONE);
        x.near(w("a"), 0, NONE);
        due("ahead of any", x.cost(3), NONE);
        x.within(w("abc"), 1, NONE);
        dueCost(x, 4, 1, 3, 3);
        x.near(w("hh"), 1, 0);
        dueCost(x, 3, 0, 2, 1);
        x.farthest(w("abc"), 2, 1);
        dueCost(x, 5, 1, 3, 2);
        due("cost 4", x.cost(4), NONE);
        due("cost -1", x.cost(-1), NONE);
        // Root: 0 is 3 away, above 0 + 2; 2 is 2 away, and 2 and 4 are looked at: 2 itself is spared.
        x.within(w("hh"), 0, 7);
        dueCost(x, 3, 1, 2, 1);
        x.near(w("hh"), 41, NONE);
        dueCost(x, 3, 1, 2, 1);
        type(x, "near hh 1;size");
        x.perform();
        dueCost(x, 3, 0, 2, 1);
        x.beside(0, 40, NONE);
        dueCost(x, 5, 0, 3, 5);
        x.back();
        dueCost(x, 5, 0, 3, 5);
        x.around(0, 0, 0);
        dueCost(x, 5, 0, 3, 5);
        x.within(w("a"), 5, 0);
        dueCost(x, 0, 0, 1, 0);
        // A page whose bound is the limit is gone into yet.
        x = of("a", "b", "c", "d", "e");
        x.near(w("f"), 1, 0);
        dueCost(x, 5, 0, 3, 1);
        // Both pages wait with 0, and 0's came first: else 4 would have been measured.
        x = five();
        x.near(w("abc"), 1, 0);
        dueCost(x, 2, 4, 3, 1);
        // Four levels: the leaves of 0 and 4 both wait with 1, and 4's came first, so that what is found there spares 0.
        x = of("ab", "dc", "dba", "abd", "c");
        x.cap(2);
        x.near(w("cd"), 1, 0);
        dueCost(x, 5, 1, 7, 1);
    }

    // ---- 33 to 46

    private static void surveys() {
        promise = 33;
        LikePages x = five();
        for (int what = -1; what <= 4; what++) {
            due("broken " + what, x.broken(what), false);
        }
        x.tell(3, 1, 0);
        due("broken 0", x.broken(0), false);
        due("broken 1", x.broken(1), true);
        due("broken 2", x.broken(2), true);
        due("broken 3", x.broken(3), true);
        due("broken 4", x.broken(4), false);

        promise = 34;
        due("a", x.breaks(1, 0), 3);
        due("b", x.breaks(1, 1), 1);
        due("no c", x.breaks(1, 2), NONE);
        due("a below b", x.breaks(2, 0), 1);
        due("b", x.breaks(2, 1), 3);
        due("no c", x.breaks(2, 2), NONE);
        // From 3: to 0 is 2, by 1 it is 0 and 1. No two ahead of it (by a) use the way from 3 to 1 to a gain:
        // from 0 to 1 is 1; from 2 to 1 is 1; from 4 to 1 is 3, by 3 it is 3 and 0.
        due("a", x.breaks(3, 0), 3);
        due("b", x.breaks(3, 1), 1);
        due("c", x.breaks(3, 2), 0);
        due("which 3", x.breaks(3, 3), NONE);
        due("which -1", x.breaks(3, -1), NONE);
        due("what 0", x.breaks(0, 0), NONE);
        due("what 4", x.breaks(4, 0), NONE);
        due("what -1", x.breaks(-1, 0), NONE);

        promise = 35;
        due("covers", five().covers(), true);
        due("of none", new LikePages().covers(), true);
        due("uncovered", uncovered().covers(), false);
        x = uncovered();
        x.wipe();
        due("by a measure alone", x.covers(), true);

        promise = 36;
        x = five();
        due("least", x.pair(0), 1);
        due("greatest", x.pair(1), 4);
        x.tell(3, 4, 50);
        x.tell(4, 3, 0);
        due("from the lesser", x.pair(0), 1);
        due("greatest", x.pair(1), 3 * 40 + 4);
        due("what 2", x.pair(2), NONE);
        due("what -1", x.pair(-1), NONE);
        due("of one", of("a").pair(0), NONE);
        due("of one", of("a").pair(1), NONE);

        promise = 37;
        x = five();
        due("how many", x.couple(1, NONE), 3);
        due("0", x.couple(1, 0), 1);
        due("1", x.couple(1, 1), 2);
        due("2", x.couple(1, 2), 42);
        due("3", x.couple(1, 3), NONE);
        due("-2", x.couple(1, -2), NONE);
        due("all", x.couple(99, NONE), 10);
        due("the last", x.couple(99, 9), 3 * 40 + 4);
        due("r 0", x.couple(0, NONE), 0);
        due("r -1", x.couple(-1, NONE), NONE);
        due("r 100", x.couple(100, NONE), NONE);

        promise = 38;
        due("1", x.spaced(1), 3);
        due("2", x.spaced(2), 4);
        due("3", x.spaced(3), 3);
        due("4", x.spaced(4), 0);
        due("-1", x.spaced(-1), 0);
        x.tell(4, 0, 77);
        due("not from the greater", x.spaced(77), 0);
        x.tell(0, 4, 77);
        due("from the lesser", x.spaced(77), 1);

        promise = 39;
        x = five();
        due("lonely", x.lonely(), 3);
        x.tell(3, 1, 0);
        due("by far from it", x.lonely(), 4);
        due("of one", of("a").lonely(), NONE);
        due("of none", new LikePages().lonely(), NONE);
        due("of two alike", of("a", "b").lonely(), 0);

        surveysOn();
    }

    private static void surveysOn() {
        promise = 40;
        LikePages x = five();
        int[] pivots = {2, 3, 4, 0, 1};
        for (int i = 0; i < 5; i++) {
            due("pivot " + i, x.pivot(i), pivots[i]);
        }
        due("pivot 5", x.pivot(5), NONE);
        due("pivot -1", x.pivot(-1), NONE);
        due("of none", new LikePages().pivot(0), NONE);
        x.tell(2, 0, 9);
        // The sums from 0: 1 1 2 3, from 1 the same; 2 has 1 2 2 and 9: the middle is 0 then.
        due("pivot 0", x.pivot(0), 0);
        due("pivot 1", x.pivot(1), 4);
        due("pivot 2", x.pivot(2), 3);
        x = of("a", "b");
        x.tell(0, 1, 0);
        due("pivot 0", x.pivot(0), 0);
        due("not 0 again", x.pivot(1), 1);

        promise = 41;
        x = five();
        due("first", x.letter(0, 0), 1);
        due("third", x.letter(0, 2), 3);
        due("no fourth", x.letter(0, 3), NONE);
        due("-1", x.letter(0, -1), NONE);
        due("h", x.letter(4, 1), 8);
        due("no thing", x.letter(5, 0), NONE);
        due("no thing", x.letter(-1, 0), NONE);

        promise = 42;
        due("middle", x.middle(), 2);
        x.tell(0, 2, 50);
        due("by far from it", x.middle(), 2);
        x.tell(2, 0, 50);
        due("by far from it", x.middle(), 1);
        due("of one", of("h").middle(), 0);
        due("of none", new LikePages().middle(), NONE);

        promise = 43;
        x = five();
        due("groups", x.groups(1, NONE), 3);
        due("of 0", x.groups(1, 0), 3);
        due("of 2", x.groups(1, 2), 3);
        due("of 4", x.groups(1, 4), 1);
        due("r 0", x.groups(0, NONE), 5);
        due("r 2", x.groups(2, NONE), 1);
        due("r 99", x.groups(99, 4), 5);
        x.tell(4, 3, 0);
        due("not from the greater", x.groups(1, NONE), 3);
        x.tell(3, 4, 0);
        due("from the lesser", x.groups(1, NONE), 2);
        due("of 4", x.groups(1, 4), 2);
        due("r -1", x.groups(-1, NONE), NONE);
        due("r 100", x.groups(100, NONE), NONE);
        due("no thing", x.groups(1, 5), NONE);
        due("no thing", x.groups(1, -2), NONE);

        promise = 44;
        x = five();
        int[] chain = {4, 2, 0, 1, 3};
        for (int i = 0; i < 5; i++) {
            due("chain " + i, x.chain(4, i), chain[i]);
        }
        due("chain 5", x.chain(4, 5), NONE);
        due("chain -1", x.chain(4, -1), NONE);
        due("no thing", x.chain(5, 0), NONE);
        due("no thing", x.chain(-1, 0), NONE);
        x.tell(2, 3, 0);
        due("by far from the last", x.chain(4, 2), 3);

        promise = 45;
        x = five();
        due("long", x.chainLong(4), 6);
        due("long", x.chainLong(0), 1 + 1 + 2 + 3);
        due("of one", of("a").chainLong(0), 0);
        due("no thing", x.chainLong(5), NONE);
        due("no thing", x.chainLong(-1), NONE);

        promise = 46;
        due("mean", x.mean(), Float.floatToIntBits(2f));
        due("of none", new LikePages().mean(), 0);
        due("of one", of("a").mean(), 0);
        due("a third", of("a", "b", "cc").mean(), Float.floatToIntBits(5f / 3f));
        x = of("a", "b", "c", "d");
        int n = 0;
        for (int a = 0; a < 4; a++) {
            for (int b = a + 1; b < 4; b++) {
                x.tell(a, b, n == 0 ? 1 : 0);
                n++;
            }
        }
        due("a sixth", x.mean(), Float.floatToIntBits(1f / 6f));
        x.tell(0, 1, 0);
        due("nothing", x.mean(), 0);
        x.tell(0, 1, 99);
        x.tell(2, 3, 98);
        due("197 sixths", x.mean(), Float.floatToIntBits(197f / 6f));
    }

    // ---- 47 to 49

    private static void goingBack() {
        promise = 47;
        LikePages x = five();
        due("image", x.image(), 5);
        due("of none", new LikePages().image(), 0);
        due("no step", x.steps(), 5);

        promise = 48;
        x.tell(0, 1, 9);
        x.drop(4);
        x.cap(2);
        x.measure(3);
        due("back", x.back(), 5);
        due("told", x.is(6), 0);
        due("cap", x.is(5), 4);
        due("measure", x.is(4), 0);
        due("pages", x.is(1), 3);
        due("leaf of 4", x.leafOf(4), 2);
        due("steps, too", x.steps(), 5);
        x.drop(0);
        due("it stays", x.back(), 5);
        due("undo of what was ahead of the image", x.undo(), 4);
        due("things", x.is(0), 4);
        due("far", x.far(0, 3), 2);
        x.put(w("c"));
        x.put(w("d"));
        due("an undo leaves the image alone", x.back(), 5);
        due("its word", x.word(4), w("hh"));
        x.undo();
        due("an undone step leaves the image's steps alone", x.thing(w("c")), NONE);
        due("pages", x.is(1), 1);
        type(x, "size");
        x.back();
        due("the sheet stays", x.end(4), 4);
        x.perform();
        x.back();
        due("replies stay", x.reply(0), '5');

        promise = 49;
        x = new LikePages();
        due("steps", x.steps(), 0);
        x.put(w("a"));
        x.put(w("a"));
        due("steps", x.steps(), 1);
        x.put(w("b"));
        x.tell(0, 1, 5);
        x.wipe();
        x.build();
        x.tight();
        x.measure(0);
        x.cap(4);
        x.spell(0, w("c"));
        x.drop(0);
        due("each kind", x.steps(), 10);
        x.near(w("a"), 1, 0);
        x.image();
        x.is(3);
        x.feed(0, 0, 0, 0, 0);
        x.end(0);
        due("looks are none", x.steps(), 10);
        for (int n = 0; n < 30; n++) {
            x.build();
        }
        due("20 at most", x.steps(), 20);
        due("undo", x.undo(), 19);
        due("steps", x.steps(), 19);
        due("the image has its own", x.back(), 1);
        due("steps", x.steps(), 10);
    }
}
