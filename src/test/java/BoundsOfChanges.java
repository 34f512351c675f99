/** Boundary cases of promises 1 to 10, and of the tree's rules, which are seen by put and drop. */
final class BoundsOfChanges extends Bounds {
    // ---- 1

    static void promise01_LikePages_noThings() {
        LikePages x = new LikePages();
        due("things", x.is(0), 0);
        for (int thing = 0; thing < 40; thing++) {
            due("word " + thing, x.word(thing), NONE);
        }
    }

    static void promise01_LikePages_rootIsALeafWithoutEntries() {
        LikePages x = new LikePages();
        due("pages", x.is(1), 1);
        due("leaves", x.is(2), 1);
        due("levels", x.is(3), 1);
        due("entries", x.is(7), 0);
        due("leaf", x.page(0, 0), 1);
        due("its entries", x.page(0, 1), 0);
    }

    static void promise01_LikePages_atFirstEditAndCap4() {
        LikePages x = new LikePages();
        due("measure", x.is(4), 0);
        due("cap", x.is(5), 4);
        due("told", x.is(6), 0);
    }

    static void promise01_LikePages_imageIsThis() {
        LikePages x = of("a b c d e f");
        x.measure(3);
        x.cap(6);
        x.tell(0, 1, 7);
        due("back", x.back(), 0);
        due("as new", seen(x).equals(seen(new LikePages())), true);
    }

    static void promise01_LikePages_nothingYetToTell() {
        LikePages x = new LikePages();
        due("steps", x.steps(), 0);
        due("undo", x.undo(), NONE);
        due("fault", x.fault(), NONE);
        due("replies", x.reply(NONE), 0);
        due("cost", x.cost(0), NONE);
        due("the sheet has none", x.end(1), NONE);
    }

    // ---- 2

    static void promise02_put_leastAndGreatestWord() {
        LikePages x = new LikePages();
        due("a", x.put(1), 0);
        due("hhhhhh", x.put(531440), 1);
        due("h", x.put(8), 2);
        due("aaaaaa", x.put(66430), 3);
    }

    static void promise02_put_noLetter() {
        LikePages x = new LikePages();
        due("put 0", x.put(0), NONE);
        due("things", x.is(0), 0);
        due("steps", x.steps(), 0);
    }

    static void promise02_put_belowNothing() {
        LikePages x = new LikePages();
        for (int word : new int[] {-1, -8, -9, -10, -531440, -531441, LEAST + 1, LEAST}) {
            due("put " + word, x.put(word), NONE);
        }
        due("things", x.is(0), 0);
        due("steps", x.steps(), 0);
    }

    static void promise02_put_sevenLettersAndMore() {
        LikePages x = new LikePages();
        // 7, 8, 9 and 10 letters a, and the greatest int, none of whose digits is 0.
        for (int word : new int[] {531441, 531442, 597871, 5380840, 48427561, 435848050, GREATEST - 1, GREATEST}) {
            due("put " + word, x.put(word), NONE);
        }
        due("things", x.is(0), 0);
    }

    static void promise02_put_digitNought() {
        LikePages x = new LikePages();
        // The digit 0 at each of the six places but the first, with 1 at all others; then at all but the first.
        for (int power = 1; power <= 6561; power *= 9) {
            due("put without " + power, x.put(66430 - power), NONE);
        }
        for (int power = 9; power <= 59049; power *= 9) {
            due("put " + power, x.put(power), NONE);
        }
        due("things", x.is(0), 0);
    }

    static void promise02_put_thereAlready() {
        LikePages x = of("ab b");
        String before = seen(x);
        due("put", x.put(w("ab")), NONE);
        due("put", x.put(w("b")), NONE);
        dueSame("put", x, before);
    }

    static void promise02_put_thereNoMore() {
        LikePages x = of("ab b");
        x.drop(0);
        due("put of what was dropped", x.put(w("ab")), 0);
        x.spell(0, w("c"));
        due("put of what was spelled anew", x.put(w("ab")), 2);
    }

    static void promise02_put_fortyAtMost() {
        LikePages x = new LikePages();
        for (int n = 0; n < 40; n++) {
            due("put", x.put((n / 8 + 1) * 9 + n % 8 + 1), n);
        }
        String before = seen(x);
        due("the 41st", x.put(w("abcdef")), NONE);
        due("the 41st again", x.put(w("h")), NONE);
        dueSame("the 41st", x, before);
        x.drop(39);
        due("the 40th again", x.put(w("abcdef")), 39);
    }

    static void promise02_put_leastFreeNumber() {
        LikePages x = forty();
        x.drop(39);
        x.drop(17);
        x.drop(0);
        due("first", x.put(w("h")), 0);
        due("second", x.put(w("g")), 17);
        due("third", x.put(w("f")), 39);
        due("none is left", x.put(w("e")), NONE);
    }

    static void promise02_put_pageWithCapEntriesIsNotSplit() {
        String[] words = {"a", "bb", "ccc", "dddd", "eeeee", "ffffff", "g"};
        for (int cap = 2; cap <= 6; cap++) {
            LikePages x = new LikePages();
            x.cap(cap);
            for (int n = 0; n < cap; n++) {
                x.put(w(words[n]));
            }
            due("pages with cap " + cap, x.is(1), 1);
            due("entries with cap " + cap, x.page(0, 1), cap);
            x.put(w(words[cap]));
            due("pages with cap and 1 " + cap, x.is(1), 3);
            due("leaves with cap and 1 " + cap, x.is(2), 2);
            due("a new root " + cap, x.page(0, 0), 0);
            due("with both " + cap, x.page(0, 1), 2);
        }
    }

    static void promise02_put_behindAllOthers() {
        LikePages x = of("h a d");
        x.drop(0);
        x.put(w("c"));
        // 0 is put behind 1 and 2, though its number is less.
        due("first", x.entry(0, 0, 0), 1);
        due("second", x.entry(0, 1, 0), 2);
        due("third", x.entry(0, 2, 0), 0);
    }

    static void promise02_put_farLikeReachIsNotAbove() {
        LikePages x = unlikeReaches();
        // Place 5 is 1 from 0, just its reach, and 3 from 2, less than its reach: the least far.
        due("put", x.put(w("e")), 4);
        due("leaf", x.leafOf(4), 1);
        due("reach of 0", x.entry(0, 0, 1), 1);
        due("reach of 2", x.entry(0, 1, 1), 4);
    }

    static void promise02_put_reachedGoesAheadOfNearer() {
        LikePages x = unlikeReaches();
        // 2 from 0 with reach 1, 4 from 2 with reach 4.
        x.put(w("ea"));
        due("leaf", x.leafOf(4), 2);
        due("reach of 0", x.entry(0, 0, 1), 1);
        due("reach of 2", x.entry(0, 1, 1), 4);
    }

    static void promise02_put_leastAboveReach() {
        LikePages x = unlikeReaches();
        // 3 from 0, above its reach by 2; 5 from 2, above its reach by 1, and the reach is that.
        x.put(w("eb"));
        due("leaf", x.leafOf(4), 2);
        due("reach of 0", x.entry(0, 0, 1), 1);
        due("reach of 2", x.entry(0, 1, 1), 5);
        x = unlikeReaches();
        // 2 from 0, above by 1; 6 from 2, above by 2.
        x.put(w("db"));
        due("leaf", x.leafOf(4), 1);
        due("reach of 0", x.entry(0, 0, 1), 2);
        due("reach of 2", x.entry(0, 1, 1), 4);
    }

    /** unlikeReaches with reach 2 of 0, and room in its page. */
    private static LikePages evenReaches() {
        LikePages x = unlikeReaches();
        x.put(w("db"));
        x.drop(1);
        return x;
    }

    static void promise02_put_ofLikeOnesThatReachTheFirst() {
        LikePages x = evenReaches();
        // Place 6 is 2 from both, and both reach it.
        due("put", x.put(w("f")), 1);
        due("leaf", x.leafOf(1), 1);
        due("reach of 0", x.entry(0, 0, 1), 2);
    }

    static void promise02_put_ofThoseThatReachTheLeastFar() {
        LikePages x = evenReaches();
        // 5 from 2, above its reach by 1, and 9 from 0: the reach of 2 is 5 then.
        x.put(w("he"));
        due("reach of 2", x.entry(0, 1, 1), 5);
        // Place 5 is 1 from 0, less than its reach by 1, and 3 from 2, less than its reach by 2.
        due("put", x.put(w("e")), 5);
        due("leaf", x.leafOf(5), 1);
    }

    static void promise02_put_ofLikeOnesAboveReachTheFirst() {
        LikePages x = evenReaches();
        // 3 from 0 and 5 from 2: above both reaches by 1.
        due("put", x.put(w("eb")), 1);
        due("leaf", x.leafOf(1), 1);
        due("reach of 0", x.entry(0, 0, 1), 3);
        due("reach of 2", x.entry(0, 1, 1), 4);
    }

    static void promise02_put_splitNotAboveGoesToI() {
        // Places 1, 5, 3: all twos reach 2, so 0 and 1 are taken, and 2 is as far from both.
        LikePages x = plane(2, "a e c");
        due("2 is with 0", x.leafOf(2), x.leafOf(0));
        due("1 is alone", x.page(2, 1), 1);
        due("reach of 0", x.entry(0, 0, 1), 2);
        due("reach of 1", x.entry(0, 1, 1), 0);
    }

    static void promise02_put_splitOfLikeTwosTheLeast() {
        LikePages x = plane(2, "a e c");
        due("i", x.entry(0, 0, 0), 0);
        due("j", x.entry(0, 1, 0), 1);
        // Places 8, 1, 2: 0 and 1 reach 1 (2 goes to 1), 0 and 2 reach 1 (1 goes to 2), 1 and 2 reach 6.
        x = plane(2, "h a b");
        due("i", x.entry(0, 0, 0), 0);
        due("the least j of like ones", x.entry(0, 1, 0), 1);
        // Places 1, 2, 8: 0 and 1 reach 6, 0 and 2 reach 1, 1 and 2 reach 1.
        x = plane(2, "a b h");
        due("the least i of like ones", x.entry(0, 0, 0), 0);
        due("j", x.entry(0, 1, 0), 2);
    }

    static void promise02_put_splitByTheLeastGreaterReach() {
        // Places 1, 3, 4: 0 and 1 reach 0 and 1, 0 and 2 the same, 1 and 2 reach 2 and 0.
        LikePages x = plane(2, "a c d");
        due("reach of 0", x.entry(0, 0, 1), 0);
        due("reach of 1", x.entry(0, 1, 1), 1);
        due("2 is with 1", x.leafOf(2), x.leafOf(1));
        // Places 4, 3, 1: 0 and 1 reach 0 and 2, 0 and 2 reach 1 and 0.
        x = plane(2, "d c a");
        due("i", x.entry(0, 0, 0), 0);
        due("j", x.entry(0, 1, 0), 2);
        due("reach of 0", x.entry(0, 0, 1), 1);
    }

    static void promise02_put_splitKeepsTheOrder() {
        // Places 1, 8, 2, 7: 0 and 1 are centres.
        LikePages x = plane(3, "a h b g");
        due("with 0 first", x.entry(1, 0, 0), 0);
        due("with 0 second", x.entry(1, 1, 0), 2);
        due("with 1 first", x.entry(2, 0, 0), 1);
        due("with 1 second", x.entry(2, 1, 0), 3);
        // Places 1, 7, 2, 8, 3, 6: 7 and 2 alone reach all others by 1; 2 is behind 1 in its page.
        x = plane(5, "a g b h c f");
        due("i", x.entry(0, 0, 0), 1);
        due("j", x.entry(0, 1, 0), 2);
        for (int k = 0; k < 3; k++) {
            due("those of i " + k, x.entry(1, k, 0), 2 * k + 1);
            due("those of j " + k, x.entry(2, k, 0), 2 * k);
        }
    }

    static void promise02_put_splitReachesAndWaysTogether() {
        LikePages x = deep();
        due("levels", x.is(3), 3);
        due("i", x.entry(0, 0, 0), 1);
        due("its reach", x.entry(0, 0, 1), 2);
        due("j", x.entry(0, 1, 0), 2);
        due("its reach", x.entry(0, 1, 1), 0);
        due("0 keeps its reach", x.entry(1, 0, 1), 0);
        due("1 keeps its reach", x.entry(1, 1, 1), 1);
        due("one entry in the page of 2", x.page(4, 1), 1);
    }

    static void promise02_put_splitOwnEntryCountsItsReach() {
        // Places 1, 6, 2: 0 with reach 1 over 0 and 2, and 1. Place 4 is above both reaches by 2: it goes to 0, whose page
        // is split into 0 with 2 (reach 1) and 3. The root's 0, 3, 1 are split by 0 and 3: 0 is alone, with its reach; 1
        // is 2 from 3.
        LikePages x = plane(2, "a f b d");
        due("i", x.entry(0, 0, 0), 0);
        due("its reach", x.entry(0, 0, 1), 1);
        due("j", x.entry(0, 1, 0), 3);
        due("its reach", x.entry(0, 1, 1), 2);
        due("0 alone", x.page(1, 1), 1);
    }

    static void promise02_put_entriesBehindTheNewOneKeepTheirReach() {
        // Places 1, 8, 7, 2: 0 with 3, 1 with 2, both with reach 1. Places 3 and 4 go to 0, whose page is split by 0 (with 3)
        // and 4 (with 5).
        LikePages x = plane(3, "a h g b c d");
        due("entries", x.page(0, 1), 3);
        due("the last", x.entry(0, 2, 0), 1);
        due("its reach", x.entry(0, 2, 1), 1);
        due("its page", x.entry(0, 2, 3), 3);
        due("with both", x.page(3, 1), 2);
    }

    static void promise02_put_newEntryComesRightBehind() {
        // Places 1, 2, 3, 8 are split by 1 and 3. Place 4 goes to 1, whose page is split by 0 and 2.
        LikePages x = plane(3, "a b c h");
        due("first", x.entry(0, 0, 0), 1);
        due("second", x.entry(0, 1, 0), 3);
        putAll(x, "d");
        due("a root with cap entries is not split", x.page(0, 1), 3);
        due("i in its place", x.entry(0, 0, 0), 0);
        due("j right behind it", x.entry(0, 1, 0), 2);
        due("the last one is as it was", x.entry(0, 2, 0), 3);
    }

    // ---- 3

    static void promise03_drop_noThing() {
        LikePages x = of("a b c d e");
        String before = seen(x);
        for (int thing : WRONG) {
            due("drop " + thing, x.drop(thing), false);
        }
        due("drop -1", x.drop(NONE), false);
        due("drop of the first free number", x.drop(5), false);
        due("drop 39", x.drop(39), false);
        dueSame("drop", x, before);
    }

    static void promise03_drop_goneAlready() {
        LikePages x = of("a b c");
        due("drop", x.drop(1), true);
        String before = seen(x);
        due("drop again", x.drop(1), false);
        dueSame("drop again", x, before);
    }

    static void promise03_drop_ofNone() {
        LikePages x = new LikePages();
        due("drop 0", x.drop(0), false);
        due("steps", x.steps(), 0);
    }

    static void promise03_drop_theLastOneLeft() {
        LikePages x = of("a");
        due("drop", x.drop(0), true);
        due("things", x.is(0), 0);
        due("pages", x.is(1), 1);
        due("leaf", x.page(0, 0), 1);
        due("entries", x.page(0, 1), 0);
        x = deep();
        for (int thing = 0; thing < 4; thing++) {
            due("drop", x.drop(thing), true);
        }
        due("pages", x.is(1), 1);
        due("entries", x.is(7), 0);
    }

    static void promise03_drop_theLastOfForty() {
        LikePages x = forty();
        due("drop 39", x.drop(39), true);
        due("drop 0", x.drop(0), true);
        due("things", x.is(0), 38);
    }

    static void promise03_drop_noCentre() {
        LikePages x = deep();
        due("drop", x.drop(3), true);
        due("pages stay", x.is(1), 6);
        due("its entry goes", x.page(3, 1), 1);
        due("1 stays", x.entry(3, 0, 0), 1);
        due("reach of 1 stays", x.entry(1, 1, 1), 1);
        due("reach in the root stays", x.entry(0, 0, 1), 2);
        due("its leaf", x.leafOf(3), NONE);
    }

    static void promise03_drop_firstEntryGoesOthersKeepTheirOrder() {
        LikePages x = of("a b c d");
        x.drop(0);
        due("entries", x.page(0, 1), 3);
        for (int k = 0; k < 3; k++) {
            due("entry " + k, x.entry(0, k, 0), k + 1);
        }
        x.drop(3);
        due("the last one", x.page(0, 1), 2);
        due("first", x.entry(0, 0, 0), 1);
        due("second", x.entry(0, 1, 0), 2);
    }

    static void promise03_drop_centreOfALowPageAlone() {
        LikePages x = deep();
        // 0 is a centre in page 1, not in the root. Places 3, 8, 4 built anew: 1 with reach 1, 2 with reach 0.
        due("drop", x.drop(0), true);
        due("pages", x.is(1), 3);
        due("first", x.entry(0, 0, 0), 1);
        due("reach", x.entry(0, 0, 1), 1);
        due("second", x.entry(0, 1, 0), 2);
    }

    /**
     * Cap 3, places 3, 1, 2, 4, 5, 6, 8, 7. The first four: 0 (reach 1) with 2, 3, and 1. Place 5 splits 0's page into 0
     * with 2 and 3 with 4; 8 splits that of 3, then with 4 and 5, into 4 with 3, 5 and 6; the root's 0, 4, 6, 1 are split
     * by 0 (with 1) and 4 (with 6). Place 7 goes to 4 and splits its page into 3 with 4 and 5 with 7.
     */
    private static LikePages centreInTheRootAlone() {
        return plane(3, "c a b d e f h g");
    }

    static void promise03_drop_centreOfTheRootAlone() {
        LikePages x = centreInTheRootAlone();
        due("pages", x.is(1), 8);
        due("4 is a centre in the root", x.entry(0, 1, 0), 4);
        int low = x.entry(0, 1, 3);
        int[] centres = {3, 5, 6};
        for (int k = 0; k < 3; k++) {
            due("not below it: " + k, x.entry(low, k, 0), centres[k]);
        }
        due("drop", x.drop(4), true);
        // Built anew: 0 with 2 and 3, 5 with 6 and 7, and 1.
        due("pages", x.is(1), 4);
        due("levels", x.is(3), 2);
        due("5 with 6 and 7", x.page(2, 1), 3);
    }

    static void promise03_drop_noCentreThoughOthersOfItsPageAre() {
        LikePages x = centreInTheRootAlone();
        // 7 is no centre anywhere.
        due("drop", x.drop(7), true);
        due("pages", x.is(1), 8);
        due("levels", x.is(3), 3);
    }

    /** No page but a root that is a leaf is without entries, and no inner root has one alone. */
    private static void dueNoneEmpty(LikePages x) {
        int pages = x.is(1);
        due("entries in the root", x.page(0, 1) >= (pages > 1 ? 2 : 0), true);
        int entries = 0;
        for (int i = 0; i < pages; i++) {
            int its = x.page(i, 1);
            due("entries in page " + i, its > 0 || pages == 1, true);
            entries += its;
        }
        due("entries: things, and pages but the root", entries, x.is(0) + pages - 1);
    }

    static void promise03_drop_noPageIsLeftWithoutEntries() {
        // A page holds its own centre, and a centre that is dropped has the tree built anew: from both ends, one by one.
        for (int thing = 0; thing < 8; thing++) {
            LikePages x = centreInTheRootAlone();
            x.drop(thing);
            dueNoneEmpty(x);
            x.drop(7 - thing);
            dueNoneEmpty(x);
        }
        LikePages x = deep();
        for (int thing = 3; thing >= 0; thing--) {
            x.drop(thing);
            dueNoneEmpty(x);
        }
    }

    static void promise03_drop_toldFromAndToItAreGone() {
        LikePages x = of("a b c");
        x.tell(0, 1, 5);
        x.tell(1, 0, 6);
        x.tell(1, 2, 7);
        x.tell(2, 1, 8);
        x.tell(0, 2, 9);
        x.tell(2, 0, 10);
        x.drop(1);
        due("told", x.is(6), 2);
        due("0 to 2 stays", x.far(0, 2), 9);
        due("2 to 0 stays", x.far(2, 0), 10);
        x.put(w("b"));
        due("0 to 1", x.far(0, 1), 1);
        due("1 to 0", x.far(1, 0), 1);
        due("1 to 2", x.far(1, 2), 1);
        due("2 to 1", x.far(2, 1), 1);
    }

    // ---- 4

    static void promise04_measure_noMeasure() {
        LikePages x = deep();
        String before = seen(x);
        for (int measure : new int[] {LEAST, -2, -1, 4, 5, 40, GREATEST}) {
            due("measure " + measure, x.measure(measure), false);
        }
        dueSame("measure", x, before);
    }

    static void promise04_measure_firstAndLast() {
        LikePages x = of("ab abc");
        due("head", x.measure(3), true);
        due("far", x.far(0, 1), 5);
        due("edit", x.measure(0), true);
        due("far", x.far(0, 1), 1);
    }

    static void promise04_measure_ofNone() {
        LikePages x = new LikePages();
        due("measure", x.measure(1), true);
        due("which", x.is(4), 1);
        due("pages", x.is(1), 1);
        due("steps", x.steps(), 1);
    }

    static void promise04_measure_toldAnewTheSameIsBuilt() {
        LikePages x = deep();
        x.drop(3);
        due("pages", x.is(1), 6);
        due("sum again", x.measure(SUM), true);
        due("built", x.is(1), 3);
        due("a step", x.steps(), 8);
    }

    static void promise04_measure_toldDistancesStay() {
        LikePages x = of("a b");
        x.tell(0, 1, 50);
        x.measure(3);
        due("told", x.is(6), 1);
        due("far", x.far(0, 1), 50);
        due("the other way", x.far(1, 0), 7);
    }

    // ---- 5

    static void promise05_cap_tooSmallAndTooLarge() {
        LikePages x = deep();
        String before = seen(x);
        for (int cap : new int[] {LEAST, -2, -1, 0, 1, 7, 8, 40, GREATEST}) {
            due("cap " + cap, x.cap(cap), false);
        }
        dueSame("cap", x, before);
    }

    static void promise05_cap_leastAndGreatest() {
        LikePages x = of("a b c d e f g");
        due("cap 6", x.cap(6), true);
        due("which", x.is(5), 6);
        due("pages of seven", x.is(1), 3);
        due("cap 2", x.cap(2), true);
        due("which", x.is(5), 2);
        for (int i = 0; i < x.is(1); i++) {
            due("two at most in page " + i, x.page(i, 1) <= 2, true);
        }
    }

    static void promise05_cap_toldAnewTheSameIsBuilt() {
        LikePages x = deep();
        x.drop(3);
        due("cap again", x.cap(2), true);
        due("built", x.is(1), 3);
        due("a step", x.steps(), 8);
    }

    static void promise05_cap_allInTheRootAgain() {
        LikePages x = deep();
        due("levels", x.is(3), 3);
        for (int i = 0; i < 6; i++) {
            x.page(i, 4);
        }
        x.cap(4);
        due("pages", x.is(1), 1);
        due("no centre", x.page(0, 2), NONE);
        due("no reach above", x.page(0, 3), NONE);
        due("no page above", x.page(0, 4), 0);
        for (int k = 0; k < 4; k++) {
            due("way", x.entry(0, k, 2), 0);
        }
        due("none is spared", x.within(w("hhhhhh"), 0, NONE), 0);
        dueCost(x, 4, 0, 1, 0);
    }

    static void promise05_cap_ofNone() {
        LikePages x = new LikePages();
        due("cap", x.cap(2), true);
        due("pages", x.is(1), 1);
        due("entries", x.is(7), 0);
    }

    // ---- 6

    static void promise06_tell_leastAndGreatestFar() {
        LikePages x = of("a b");
        due("0", x.tell(0, 1, 0), 1);
        due("far", x.far(0, 1), 0);
        due("99", x.tell(0, 1, 99), 1);
        due("far", x.far(0, 1), 99);
    }

    static void promise06_tell_farTooSmallAndTooLarge() {
        LikePages x = of("a b");
        String before = seen(x);
        for (int far : new int[] {LEAST, -2, -1, 100, 101, 256, GREATEST}) {
            due("tell " + far, x.tell(0, 1, far), NONE);
        }
        dueSame("tell", x, before);
    }

    static void promise06_tell_likeThings() {
        LikePages x = of("a b c");
        String before = seen(x);
        for (int thing = 0; thing < 3; thing++) {
            due("tell " + thing, x.tell(thing, thing, 5), NONE);
            due("tell 0 " + thing, x.tell(thing, thing, 0), NONE);
        }
        dueSame("tell", x, before);
        due("to itself", x.far(1, 1), 0);
    }

    static void promise06_tell_noThings() {
        LikePages x = of("a b c d");
        x.drop(3);
        String before = seen(x);
        for (int thing : WRONG) {
            due("from " + thing, x.tell(thing, 0, 5), NONE);
            due("to " + thing, x.tell(0, thing, 5), NONE);
            due("both " + thing, x.tell(thing, thing, 5), NONE);
        }
        due("from none", x.tell(NONE, 0, 5), NONE);
        due("to none", x.tell(0, NONE, 5), NONE);
        due("from a free number", x.tell(3, 0, 5), NONE);
        due("to a free number", x.tell(0, 3, 5), NONE);
        dueSame("tell", x, before);
    }

    /** Sixteen told: from 0, 1, 2 to all others of five, from 3 to 0, 1, 2, and from 4 to 0. */
    private static LikePages sixteen() {
        LikePages x = of("a b c d e");
        for (int n = 0; n < 20; n++) {
            int from = n / 4;
            int to = n % 4 < from ? n % 4 : n % 4 + 1;
            if (n < 15 || n == 16) {
                x.tell(from, to, n + 10);
            }
        }
        return x;
    }

    static void promise06_tell_sixteenAtMost() {
        LikePages x = of("a b c d e");
        int n = 0;
        for (int from = 0; from < 4; from++) {
            for (int to = 0; to < 5; to++) {
                if (from != to) {
                    n++;
                    due("tell", x.tell(from, to, 7), n);
                }
            }
        }
        String before = seen(x);
        due("the 17th", x.tell(4, 0, 7), NONE);
        due("the 17th again", x.tell(4, 3, 99), NONE);
        dueSame("the 17th", x, before);
        due("far", x.far(4, 0), 1);
        due("told", x.is(6), 16);
    }

    static void promise06_tell_inPlaceOfOneOfSixteen() {
        LikePages x = sixteen();
        due("told", x.is(6), 16);
        due("the first", x.tell(0, 1, 99), 16);
        due("the last", x.tell(4, 0, 98), 16);
        due("first far", x.far(0, 1), 99);
        due("last far", x.far(4, 0), 98);
        due("another", x.far(3, 2), 24);
    }

    static void promise06_tell_roomAgainAfterDrop() {
        LikePages x = sixteen();
        // With 4 goes what is told to it from 0, 1, 2, and from it to 0.
        x.drop(4);
        due("told", x.is(6), 12);
        x.put(w("h"));
        due("tell", x.tell(4, 0, 7), 13);
    }

    static void promise06_tell_theOtherWayIsAnother() {
        LikePages x = of("a b");
        due("there", x.tell(0, 1, 5), 1);
        due("back", x.tell(1, 0, 6), 2);
        due("there again", x.tell(0, 1, 7), 2);
        due("far there", x.far(0, 1), 7);
        due("far back", x.far(1, 0), 6);
    }

    static void promise06_tell_isBuilt() {
        LikePages x = deep();
        x.drop(3);
        x.tell(0, 1, 2);
        due("as the measure tells, but built", x.is(1), 3);
        x = deep();
        x.drop(3);
        due("refused", x.tell(0, 3, 2), NONE);
        due("not built", x.is(1), 6);
    }

    static void promise06_tell_putByFarFromTheCentre() {
        // Place 7 is 3 from 0, which is above its reach of 1, and 1 from 2, whose reach is 4.
        LikePages x = unlikeReaches();
        x.put(w("g"));
        due("leaf of 4", x.leafOf(4), 2);
        x.tell(4, 0, 1);
        due("told to the centre: leaf of 4", x.leafOf(4), 2);
        // Both centres reach it now, and both with 1: the first.
        x.wipe();
        x.tell(0, 4, 1);
        due("told from the centre: leaf of 4", x.leafOf(4), 1);
    }

    static void promise06_tell_reachIsFarFromTheCentre() {
        LikePages x = unlikeReaches();
        x.put(w("g"));
        x.tell(4, 2, 50);
        due("told to the centre: leaf of 4", x.leafOf(4), 2);
        due("told to the centre: reach", x.entry(0, 1, 1), 4);
        // It is above the reach of 2 by 1, above that of 0 by 2.
        x.wipe();
        x.tell(2, 4, 5);
        due("told from the centre: leaf of 4", x.leafOf(4), 2);
        due("told from the centre: reach", x.entry(0, 1, 1), 5);
        due("reach of the other", x.entry(0, 0, 1), 1);
    }

    // ---- 7

    static void promise07_wipe_none() {
        LikePages x = new LikePages();
        due("wipe", x.wipe(), 0);
        x = of("a b");
        due("wipe", x.wipe(), 0);
        due("told", x.is(6), 0);
    }

    static void promise07_wipe_sixteen() {
        LikePages x = sixteen();
        due("wipe", x.wipe(), 16);
        due("told", x.is(6), 0);
        due("far of the first", x.far(0, 1), 1);
        due("far of the last", x.far(4, 0), 1);
        due("again", x.wipe(), 0);
        due("one again", x.tell(4, 0, 9), 1);
    }

    static void promise07_wipe_isBuilt() {
        LikePages x = deep();
        x.drop(3);
        due("wipe of none", x.wipe(), 0);
        due("built", x.is(1), 3);
    }

    // ---- 8

    static void promise08_build_noThings() {
        LikePages x = new LikePages();
        due("build", x.build(), 1);
        due("entries", x.is(7), 0);
        due("leaf", x.page(0, 0), 1);
        due("steps", x.steps(), 1);
    }

    static void promise08_build_forty() {
        LikePages x = forty();
        int pages = x.is(1);
        due("build", x.build(), pages);
        for (int thing = 0; thing < 40; thing++) {
            due("leaf of " + thing, x.leafOf(thing) != NONE, true);
        }
    }

    static void promise08_build_byNumbers() {
        LikePages x = of("h a d");
        x.drop(0);
        x.put(w("c"));
        due("last", x.entry(0, 2, 0), 0);
        due("build", x.build(), 1);
        for (int k = 0; k < 3; k++) {
            due("entry " + k, x.entry(0, k, 0), k);
        }
    }

    static void promise08_build_fewerPages() {
        LikePages x = deep();
        x.drop(3);
        due("pages", x.is(1), 6);
        due("build", x.build(), 3);
    }

    // ---- 9

    static void promise09_spell_wordOfAnother() {
        LikePages x = of("a b c");
        String before = seen(x);
        due("spell", x.spell(0, w("b")), false);
        due("spell", x.spell(2, w("a")), false);
        dueSame("spell", x, before);
    }

    static void promise09_spell_itsOwnWord() {
        LikePages x = of("a b c");
        x.tell(0, 1, 5);
        String before = seen(x);
        for (int thing = 0; thing < 3; thing++) {
            due("spell", x.spell(thing, x.word(thing)), false);
        }
        dueSame("spell", x, before);
    }

    static void promise09_spell_noWord() {
        LikePages x = of("a b c");
        String before = seen(x);
        for (int word : new int[] {LEAST, -1, 0, 9, 90, 531441, 597871, GREATEST}) {
            due("spell " + word, x.spell(1, word), false);
        }
        dueSame("spell", x, before);
    }

    static void promise09_spell_noThing() {
        LikePages x = of("a b c");
        x.drop(2);
        String before = seen(x);
        for (int thing : WRONG) {
            due("spell " + thing, x.spell(thing, w("h")), false);
        }
        due("spell -1", x.spell(NONE, w("h")), false);
        due("spell of a free number", x.spell(2, w("h")), false);
        due("spell 39", x.spell(39, w("h")), false);
        dueSame("spell", x, before);
        due("of none", new LikePages().spell(0, w("a")), false);
    }

    static void promise09_spell_whenThereAreForty() {
        LikePages x = forty();
        due("spell", x.spell(39, w("abcdef")), true);
        due("things", x.is(0), 40);
        due("thing", x.thing(w("abcdef")), 39);
        due("spell of the first", x.spell(0, w("h")), true);
        due("thing", x.thing(w("h")), 0);
        due("leaf", x.leafOf(0) != NONE, true);
    }

    static void promise09_spell_farIsOfTheNewWord() {
        LikePages x = forty();
        // aa and eh are 2 apart, hhhhhh and eh 5.
        x.spell(0, w("hhhhhh"));
        due("to the last", x.far(0, 39), 5);
        due("from the last", x.far(39, 0), 5);
        x.spell(39, w("hhhhh"));
        due("to the last", x.far(0, 39), 1);
        due("from the last", x.far(39, 0), 1);
    }

    static void promise09_spell_theOnlyOne() {
        LikePages x = of("a");
        due("spell", x.spell(0, w("b")), true);
        due("word", x.word(0), w("b"));
        due("things", x.is(0), 1);
        due("entries", x.is(7), 1);
    }

    static void promise09_spell_itsNumberStays() {
        LikePages x = of("a b c");
        x.drop(0);
        due("spell", x.spell(2, w("h")), true);
        due("its number", x.thing(w("h")), 2);
        due("0 is free", x.word(0), NONE);
        due("old word", x.thing(w("c")), NONE);
    }

    static void promise09_spell_leastAndGreatestWord() {
        LikePages x = of("b");
        due("hhhhhh", x.spell(0, 531440), true);
        due("a", x.spell(0, 1), true);
        due("word", x.word(0), 1);
    }

    static void promise09_spell_noCentreIsPutBehindAllOthers() {
        LikePages x = of("a b c d");
        due("spell", x.spell(1, w("h")), true);
        due("last", x.entry(0, 3, 0), 1);
        due("pages", x.is(1), 1);
        due("second", x.entry(0, 1, 0), 2);
    }

    static void promise09_spell_aCentreIsBuiltWithoutItFirst() {
        LikePages x = deep();
        // Places 3, 8, 4 built: 1 with 3, and 2. Then 7 is beyond 1 by 3 and beyond 2 by 1.
        due("spell", x.spell(0, w("g")), true);
        due("pages", x.is(1), 3);
        due("with 2", x.leafOf(0), x.leafOf(2));
        due("reach of 2", x.entry(0, 1, 1), 1);
        due("reach of 1", x.entry(0, 0, 1), 1);
        due("behind 2", x.entry(2, 1, 0), 0);
    }

    static void promise09_spell_toldFromAndToItAreGone() {
        LikePages x = of("a b c");
        x.tell(0, 1, 5);
        x.tell(1, 2, 6);
        x.tell(2, 0, 7);
        x.spell(1, w("d"));
        due("told", x.is(6), 1);
        due("0 to 1", x.far(0, 1), 1);
        due("1 to 2", x.far(1, 2), 1);
        due("2 to 0", x.far(2, 0), 7);
        due("refused", x.spell(2, w("d")), false);
        due("told stays", x.is(6), 1);
    }

    // ---- 10

    static void promise10_tight_noInnerEntries() {
        LikePages x = new LikePages();
        due("of none", x.tight(), 0);
        due("a step", x.steps(), 1);
        due("of a leaf", of("a h").tight(), 0);
    }

    static void promise10_tight_already() {
        LikePages x = line();
        due("tight", x.tight(), 0);
        due("reach", x.entry(0, 0, 1), 2);
        due("a step all the same", x.steps(), 6);
    }

    static void promise10_tight_downToNothing() {
        LikePages x = line();
        x.drop(1);
        due("tight", x.tight(), 2);
        due("reach of 0", x.entry(0, 0, 1), 0);
        due("reach of 2", x.entry(0, 1, 1), 0);
        due("again", x.tight(), 0);
    }

    static void promise10_tight_allLevelsTogether() {
        LikePages x = deep();
        // Without place 4 the page of 1 needs no reach; 0 at place 1 is 2 from 1, so the root's stays.
        x.drop(3);
        due("tight", x.tight(), 1);
        due("root's", x.entry(0, 0, 1), 2);
        due("page 1's", x.entry(1, 1, 1), 0);
    }

    static void promise10_tight_reachesMayBeMore() {
        LikePages x = of("f e a c");
        x.cap(2);
        x.tell(0, 1, 0);
        x.tell(1, 3, 0);
        due("0 does not reach 3", x.covers(), false);
        due("tight", x.tight(), -1);
        due("reach", x.entry(0, 0, 1), 1);
        due("covers", x.covers(), true);
    }
}
