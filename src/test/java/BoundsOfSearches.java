/** Boundary cases of promises 26 to 32: within, near, farthest, and what they cost. */
final class BoundsOfSearches extends Bounds {
    private static final int[] NO_WORDS = {LEAST, -1, 0, 9, 82, 531441, 597871, GREATEST};
    private static final int[] NO_FARS = {LEAST, -2, -1, 100, 101, 1000, GREATEST};
    private static final int[] NO_COUNTS = {LEAST, -2, -1, 0, 41, 42, 1000, GREATEST};
    private static final int[] NO_PLACES = {LEAST, LEAST + 1, -3, -2, 40, 41, GREATEST};

    // ---- 26

    static void promise26_within_noWord() {
        LikePages x = deep();
        for (int word : NO_WORDS) {
            due("within " + word, x.within(word, 1, NONE), NONE);
            due("within, first of " + word, x.within(word, 99, 0), NONE);
        }
        due("nothing was asked", x.cost(0), NONE);
    }

    static void promise26_within_rTooSmallAndTooLarge() {
        LikePages x = deep();
        for (int r : NO_FARS) {
            due("r " + r, x.within(w("a"), r, NONE), NONE);
            due("r, first " + r, x.within(w("a"), r, 0), NONE);
        }
        due("nothing was asked", x.cost(0), NONE);
    }

    static void promise26_within_rNoughtAndNinetyNine() {
        LikePages x = deep();
        due("r 0", x.within(w("d"), 0, NONE), 1);
        due("r 0, first", x.within(w("d"), 0, 0), 3);
        due("r 99", x.within(w("d"), 99, NONE), 4);
        due("r 0 of another", x.within(w("e"), 0, NONE), 0);
    }

    static void promise26_within_noneSuch() {
        LikePages x = deep();
        for (int i : NO_PLACES) {
            due("i " + i, x.within(w("a"), 99, i), NONE);
        }
        due("the last", x.within(w("a"), 99, 3), 2);
        due("one more", x.within(w("a"), 99, 4), NONE);
        due("of none found", x.within(w("e"), 0, 0), NONE);
    }

    static void promise26_within_ofNone() {
        LikePages x = new LikePages();
        due("how many", x.within(1, 99, NONE), 0);
        due("first", x.within(1, 99, 0), NONE);
        dueCost(x, 0, 0, 1, 0);
    }

    static void promise26_within_ofForty() {
        LikePages x = forty();
        due("how many", x.within(w("aa"), 99, NONE), 40);
        due("first", x.within(w("aa"), 99, 0), 0);
        due("last", x.within(w("aa"), 99, 39), 39);
        due("cost", x.cost(0), 40);
        due("spared", x.cost(1), 0);
        due("looked at", x.cost(2), x.is(1));
    }

    static void promise26_within_farJustR() {
        LikePages x = of("a bb ccc");
        due("just", x.within(w("dd"), 2, NONE), 2);
        due("less", x.within(w("dd"), 1, NONE), 0);
        due("more", x.within(w("dd"), 3, NONE), 3);
    }

    static void promise26_within_intoAPageFarJustRAndReach() {
        // Place 4 is 3 from 0 with reach 2; in its page 1 is just r away.
        LikePages x = line();
        due("r 1", x.within(w("d"), 1, NONE), 1);
        dueCost(x, 3, 1, 2, 1);
        due("r 0", x.within(w("d"), 0, NONE), 0);
        dueCost(x, 2, 0, 1, 0);
    }

    static void promise26_within_notSparedWhenJustSoFarApart() {
        // Page of 0: 0 is 3 apart from it, more than r, and spared; 1 is 3 less 2 apart, just r.
        LikePages x = line();
        due("found", x.within(w("d"), 1, 0), 1);
        due("spared", x.cost(1), 1);
        // Place 2, 0 and 1 with ways 0 and 2: 1 apart from both, and the way may be the greater.
        due("r 1", x.within(w("b"), 1, NONE), 2);
        dueCost(x, 3, 0, 2, 2);
        due("r 0", x.within(w("b"), 0, NONE), 0);
        dueCost(x, 2, 2, 2, 0);
    }

    static void promise26_within_innerEntriesAreSparedByTheirReach() {
        LikePages x = deep();
        // Place 5 is 2 from 1. In page 1: 0 has way 2, 0 apart; 1 has way 0, 2 apart, and reach 1.
        due("r 0", x.within(w("e"), 0, NONE), 0);
        dueCost(x, 3, 1, 2, 0);
        due("r 1", x.within(w("e"), 1, 0), 3);
        dueCost(x, 4, 1, 3, 1);
    }

    static void promise26_within_notSparedInTheRoot() {
        LikePages x = of("a b c d");
        due("how many", x.within(w("hhhhhh"), 0, NONE), 0);
        dueCost(x, 4, 0, 1, 0);
        x = line();
        due("how many", x.within(w("hhhhhh"), 0, NONE), 0);
        dueCost(x, 2, 0, 1, 0);
    }

    static void promise26_within_byFarThenByNumbers() {
        LikePages x = plane(4, "h a c");
        x.drop(0);
        x.put(w("e"));
        // In the page: 1 at place 1, 2 at place 3, 0 at place 5.
        int[] order = {0, 2, 1};
        for (int i = 0; i < 3; i++) {
            due("found " + i, x.within(w("d"), 99, i), order[i]);
        }
    }

    static void promise26_within_isNotTold() {
        LikePages x = of("a b");
        x.tell(0, 1, 99);
        due("by the measure", x.within(w("a"), 1, NONE), 2);
    }

    /**
     * The line, with 50 told from 1 to 0: as centres 0 and 1 would reach 5, 0 and 2 reach 2, 1 and 2 reach 7 (0 is 50
     * from 1, 7 from 2), so the tree is as it was, and the way of 1 is the 2 from its centre 0.
     */
    private static LikePages lineToldBack() {
        LikePages x = line();
        x.tell(1, 0, 50);
        due("centres", x.entry(0, 0, 0) * 10 + x.entry(0, 1, 0), 2);
        return x;
    }

    static void promise26_within_wayIsFromTheCentre() {
        LikePages x = lineToldBack();
        // Place 3 is 2 from 0: into its page; 0 itself is spared (2 and way 0), 1 is not (2 and way 2). 2 is 5 from it.
        due("within 0 of place 3", x.within(w("c"), 0, 0), 1);
        dueCost(x, 3, 1, 2, 1);
    }

    // ---- 27

    static void promise27_around_noThing() {
        LikePages x = deep();
        for (int thing : WRONG) {
            due("around " + thing, x.around(thing, 99, NONE), NONE);
        }
        due("around -1", x.around(NONE, 99, NONE), NONE);
        due("the first free one", x.around(4, 99, NONE), NONE);
        due("of none", new LikePages().around(0, 0, NONE), NONE);
        due("nothing was asked", x.cost(0), NONE);
    }

    static void promise27_around_rTooSmallAndTooLarge() {
        LikePages x = deep();
        for (int r : NO_FARS) {
            due("r " + r, x.around(0, r, NONE), NONE);
        }
        due("nothing was asked", x.cost(0), NONE);
    }

    static void promise27_around_itToo() {
        LikePages x = deep();
        for (int thing = 0; thing < 4; thing++) {
            due("how many", x.around(thing, 0, NONE), 1);
            due("itself", x.around(thing, 0, 0), thing);
            due("no other", x.around(thing, 0, 1), NONE);
        }
        due("the only one", of("a").around(0, 99, NONE), 1);
    }

    static void promise27_around_noneSuch() {
        LikePages x = deep();
        for (int i : NO_PLACES) {
            due("i " + i, x.around(0, 99, i), NONE);
        }
        due("the last", x.around(0, 99, 3), 2);
        due("one more", x.around(0, 99, 4), NONE);
    }

    static void promise27_around_toldNoughtAndNinetyNine() {
        LikePages x = of("a b c");
        x.tell(0, 2, 99);
        x.tell(1, 2, 0);
        due("r 98", x.around(0, 98, NONE), 2);
        due("r 99", x.around(0, 99, NONE), 3);
        due("the last", x.around(0, 99, 2), 2);
        due("r 0", x.around(1, 0, NONE), 2);
        due("of like ones by numbers", x.around(1, 0, 1), 2);
        due("not told to it", x.around(2, 1, NONE), 3);
    }

    static void promise27_around_toldToACentre() {
        LikePages x = line();
        // The tree is built the same, but 0 is told to be 9 from 2: its page is not gone into for r 6.
        x.tell(2, 0, 9);
        due("centres", x.entry(0, 0, 0) * 10 + x.entry(0, 1, 0), 2);
        due("far from 2 to 1", x.far(2, 1), 5);
        due("r 6", x.around(2, 6, NONE), 1);
        dueCost(x, 2, 0, 2, 1);
        due("r 7", x.around(2, 7, NONE), 2);
        dueCost(x, 3, 1, 3, 2);
    }

    // ---- 28

    static void promise28_near_noWord() {
        LikePages x = deep();
        for (int word : NO_WORDS) {
            due("near " + word, x.near(word, 1, NONE), NONE);
            due("near, first of " + word, x.near(word, 40, 0), NONE);
        }
        due("nothing was asked", x.cost(0), NONE);
    }

    static void promise28_near_kTooSmallAndTooLarge() {
        LikePages x = deep();
        for (int k : NO_COUNTS) {
            due("k " + k, x.near(w("a"), k, NONE), NONE);
            due("k, first " + k, x.near(w("a"), k, 0), NONE);
        }
        due("nothing was asked", x.cost(0), NONE);
    }

    static void promise28_near_kOneAndForty() {
        LikePages x = forty();
        due("k 1", x.near(w("eh"), 1, NONE), 1);
        due("first", x.near(w("eh"), 1, 0), 39);
        due("no second", x.near(w("eh"), 1, 1), NONE);
        due("k 40", x.near(w("eh"), 40, NONE), 40);
        due("first", x.near(w("eh"), 40, 0), 39);
        due("k 39", x.near(w("eh"), 39, NONE), 39);
        due("no fortieth", x.near(w("eh"), 39, 39), NONE);
    }

    static void promise28_near_noneSuch() {
        LikePages x = deep();
        for (int i : NO_PLACES) {
            due("i " + i, x.near(w("a"), 40, i), NONE);
        }
        due("the last", x.near(w("a"), 40, 3), 2);
        due("one more", x.near(w("a"), 40, 4), NONE);
    }

    static void promise28_near_ofNone() {
        LikePages x = new LikePages();
        due("how many", x.near(1, 40, NONE), 0);
        due("first", x.near(1, 1, 0), NONE);
        dueCost(x, 0, 0, 1, 0);
    }

    static void promise28_near_fewerThanK() {
        LikePages x = deep();
        due("how many", x.near(w("a"), 5, NONE), 4);
        // Without a limit none is spared, and all pages are gone into.
        dueCost(x, 4, 0, 6, 4);
        due("just k", x.near(w("a"), 4, NONE), 4);
    }

    static void promise28_near_ofLikeOnesTheLeastNumbers() {
        LikePages x = plane(4, "h a c");
        x.drop(0);
        x.put(w("e"));
        // In the page: 1 at place 1, 2 at place 3, 0 at place 5; from place 4: 3, 1, 1.
        due("k 1", x.near(w("d"), 1, 0), 0);
        due("k 2, first", x.near(w("d"), 2, 0), 0);
        due("k 2, second", x.near(w("d"), 2, 1), 2);
        due("k 3, third", x.near(w("d"), 3, 2), 1);
    }

    static void promise28_near_boundJustLimit() {
        // Places 1, 3, 7: 0 with reach 2 over 0 and 1, 2 with reach 0. From place 5 both pages wait with 2; 0's came
        // first: 0 is 4 away, then 1 is 2, and the page of 2 is not above that; 2 is 2 apart from its centre, and found.
        LikePages x = plane(2, "a c g");
        due("nearest", x.near(w("e"), 1, 0), 1);
        dueCost(x, 3, 0, 3, 1);
    }

    static void promise28_near_boundAboveLimit() {
        // From place 4: the page of 0 waits with 1, that of 2 with 3; 1 is 1 away.
        LikePages x = plane(2, "a c g");
        due("nearest", x.near(w("d"), 1, 0), 1);
        dueCost(x, 3, 0, 2, 1);
    }

    static void promise28_near_boundIsNoughtAtLeast() {
        // Place 5 is 1 from 0 with reach 1, and 3 from 2 with reach 4: both pages wait with 0, and 0's came first. 0 is found
        // with 1, 1 is measured; in the page of 2, 2 is 3 apart and spared, 3 is 4 less 3 apart and measured.
        LikePages x = unlikeReaches();
        due("nearest", x.near(w("e"), 1, 0), 0);
        dueCost(x, 4, 1, 3, 1);
    }

    static void promise28_near_sparedWithALimitAlone() {
        // From place 7: the page of 2 has bound 0, and 2 is found with 0; with k 2 there is no limit yet, and 0 and 1 are
        // measured: 1 is 4 apart from 0, where 6 is the limit of 2 and 0.
        LikePages x = plane(2, "a c g");
        due("nearest", x.near(w("g"), 1, 0), 2);
        dueCost(x, 2, 0, 2, 1);
        due("second", x.near(w("g"), 2, 1), 1);
        dueCost(x, 3, 0, 3, 2);
    }

    static void promise28_near_ofLikeBoundsThatWhichCameFirst() {
        // From place 6 of the deep tree: pages 1 and 4 wait with 1 and 2; page 1 lets 0's leaf wait with 5 and 1's with 2.
        // Page 4 came ahead of that, and lets 2's leaf wait with 2, behind 1's: 1 with 3, 3 with 2, then 2 with 2.
        LikePages x = deep();
        due("nearest", x.near(w("f"), 1, 0), 2);
        dueCost(x, 4, 0, 5, 1);
    }

    static void promise28_near_ofLikeBoundsNotThePagesOrder() {
        // Places 1, 6, 2, 4: root 0 (reach 1) over page 1, 3 (reach 2) over page 3; page 1: 0 over 0 and 2; page 3: 3 and 1,
        // each alone. From place 2 pages 1 and 3 wait with 0, and page 1 lets that of 0 and 2 wait with 0, too. Page 3 came
        // ahead of that, so there is no limit yet, and 1 is measured. Then 0 with 1, 2 with 0; the others wait with 2 and 4.
        LikePages x = plane(2, "a f b d");
        due("nearest", x.near(w("b"), 1, 0), 2);
        dueCost(x, 4, 0, 4, 1);
    }

    static void promise28_near_innerEntriesAtTheLimit() {
        // Places 7, 4, 5, 6, 3: root 0 (reach 1) over page 1, 1 (reach 1) over page 3; page 1: 0 (reach 1) over 0 and 3; page
        // 3: 1 (reach 1) over 1 and 4, 2 over 2. From place 5, k 2: page 3 has 0, and below it 1 with 1, 4 with 2, then 2 with
        // 0: the limit is 1, just what page 1 waits with. There 0 is 2 apart, just reach and limit, and its page waits with
        // 1, just the limit: in it 0 is spared, 3 is 1 apart, and is as far as 1.
        LikePages x = plane(2, "g d e f c");
        due("first", x.near(w("e"), 2, 0), 2);
        dueCost(x, 5, 1, 6, 2);
        due("second", x.near(w("e"), 2, 1), 1);
    }

    static void promise28_near_limitIsOfTheKthFound() {
        // Places 1, 7, 5, 4: root 0 over page 1, 2 (reach 2) over page 3; page 3: 1, and 2 (reach 1) over 2 and 3. From place
        // 3, k 2: page 3 has 0; 1 waits with 4, 2 with 1. 2 is found with 2 and 3 with 1; page 1 waits with 2, just the limit,
        // and 0 in it, 2 apart, is found with 2, and has a lesser number than 2. That of 1 is above the limit.
        LikePages x = plane(2, "a g e d");
        due("first", x.near(w("c"), 2, 0), 3);
        dueCost(x, 4, 0, 5, 2);
        due("second", x.near(w("c"), 2, 1), 0);
    }

    static void promise28_near_whatWaitedBeforeIsGone() {
        // From place 5 two pages wait yet when the search ends. Then from place 1, r 3: 1 with reach 2 is 2 away, 2 is 7 away:
        // pages 1, 2 and 3 alone, and 0, 1, 3 are found.
        LikePages x = deep();
        due("nearest", x.near(w("e"), 1, 0), 3);
        due("within", x.within(w("a"), 3, NONE), 3);
        dueCost(x, 4, 0, 4, 3);
    }

    static void promise28_near_wayIsFromTheCentre() {
        LikePages x = lineToldBack();
        // Pages wait with bounds 0 and 5. In the first one 0 makes the limit 2; 1 is not spared, and makes it 0.
        due("near place 3", x.near(w("c"), 1, 0), 1);
        dueCost(x, 3, 0, 2, 1);
    }

    static void promise28_near_isNotTold() {
        LikePages x = of("a b c");
        x.tell(0, 1, 99);
        due("of the word, by the measure", x.near(w("a"), 2, 1), 1);
        due("of the thing, as told", x.beside(0, 2, 1), 2);
    }

    // ---- 29

    static void promise29_beside_noThing() {
        LikePages x = deep();
        for (int thing : WRONG) {
            due("beside " + thing, x.beside(thing, 1, NONE), NONE);
        }
        due("beside -1", x.beside(NONE, 1, NONE), NONE);
        due("the first free one", x.beside(4, 1, NONE), NONE);
        due("of none", new LikePages().beside(0, 1, NONE), NONE);
        due("nothing was asked", x.cost(0), NONE);
    }

    static void promise29_beside_kTooSmallAndTooLarge() {
        LikePages x = deep();
        for (int k : NO_COUNTS) {
            due("k " + k, x.beside(0, k, NONE), NONE);
        }
        due("nothing was asked", x.cost(0), NONE);
    }

    static void promise29_beside_itToo() {
        LikePages x = deep();
        for (int thing = 0; thing < 4; thing++) {
            due("how many", x.beside(thing, 1, NONE), 1);
            due("itself", x.beside(thing, 1, 0), thing);
            due("k 40", x.beside(thing, 40, NONE), 4);
        }
        due("the only one", of("a").beside(0, 40, NONE), 1);
    }

    static void promise29_beside_noneSuch() {
        LikePages x = deep();
        for (int i : NO_PLACES) {
            due("i " + i, x.beside(0, 40, i), NONE);
        }
        due("the last", x.beside(0, 40, 3), 2);
        due("one more", x.beside(0, 40, 4), NONE);
    }

    static void promise29_beside_toldNoughtAndNinetyNine() {
        LikePages x = of("a b c d");
        x.tell(1, 0, 0);
        x.tell(1, 2, 99);
        int[] order = {0, 1, 3, 2};
        for (int i = 0; i < 4; i++) {
            due("beside 1: " + i, x.beside(1, 4, i), order[i]);
        }
        due("not told to it", x.beside(2, 2, 1), 0);
    }

    // ---- 30

    static void promise30_farthest_noWord() {
        LikePages x = deep();
        for (int word : NO_WORDS) {
            due("farthest " + word, x.farthest(word, 1, NONE), NONE);
            due("farthest, first of " + word, x.farthest(word, 40, 0), NONE);
        }
        due("nothing was asked", x.cost(0), NONE);
    }

    static void promise30_farthest_kTooSmallAndTooLarge() {
        LikePages x = deep();
        for (int k : NO_COUNTS) {
            due("k " + k, x.farthest(w("a"), k, NONE), NONE);
            due("k, first " + k, x.farthest(w("a"), k, 0), NONE);
        }
        due("nothing was asked", x.cost(0), NONE);
    }

    static void promise30_farthest_kOneAndForty() {
        LikePages x = forty();
        x.drop(39);
        x.put(w("hhhhhh"));
        due("k 1", x.farthest(w("aa"), 1, NONE), 1);
        due("first", x.farthest(w("aa"), 1, 0), 39);
        due("no second", x.farthest(w("aa"), 1, 1), NONE);
        due("k 40", x.farthest(w("aa"), 40, NONE), 40);
        due("first", x.farthest(w("aa"), 40, 0), 39);
        due("last", x.farthest(w("aa"), 40, 39), 0);
    }

    static void promise30_farthest_noneSuch() {
        LikePages x = deep();
        for (int i : NO_PLACES) {
            due("i " + i, x.farthest(w("a"), 40, i), NONE);
        }
        due("the last", x.farthest(w("a"), 40, 3), 0);
        due("one more", x.farthest(w("a"), 40, 4), NONE);
    }

    static void promise30_farthest_ofNone() {
        LikePages x = new LikePages();
        due("how many", x.farthest(1, 40, NONE), 0);
        due("first", x.farthest(1, 1, 0), NONE);
        dueCost(x, 0, 0, 1, 0);
    }

    static void promise30_farthest_fewerThanK() {
        LikePages x = deep();
        due("how many", x.farthest(w("a"), 5, NONE), 4);
        dueCost(x, 4, 0, 6, 4);
        due("just k", x.farthest(w("a"), 4, NONE), 4);
    }

    static void promise30_farthest_ofLikeOnesTheLeastNumbers() {
        LikePages x = plane(4, "h e c");
        x.drop(0);
        x.put(w("g"));
        // In the page: 1 at place 5, 2 at place 3, 0 at place 7; from place 5: 0, 2, 2.
        due("k 1", x.farthest(w("e"), 1, 0), 0);
        due("k 2, first", x.farthest(w("e"), 2, 0), 0);
        due("k 2, second", x.farthest(w("e"), 2, 1), 2);
        due("k 3, third", x.farthest(w("e"), 3, 2), 1);
    }

    static void promise30_farthest_boundJustLimit() {
        // Places 1, 3, 7. From place 4: the page of 0 waits with 3 and 2, that of 2 with 3. 0 is found with 3; 1 could be 5
        // away, and is measured; the page of 2 is not below 3, nor is 2 itself, which is as far as 0.
        LikePages x = plane(2, "a c g");
        due("farthest", x.farthest(w("d"), 1, 0), 0);
        dueCost(x, 3, 0, 3, 1);
    }

    static void promise30_farthest_boundBelowLimit() {
        // From place 5: the page of 0 waits with 4 and 2, that of 2 with 2; 0 is found with 4.
        LikePages x = plane(2, "a c g");
        due("farthest", x.farthest(w("e"), 1, 0), 0);
        dueCost(x, 3, 0, 2, 1);
    }

    static void promise30_farthest_ofLikeBoundsThatWhichCameFirst() {
        // Places 7, 3, 1: 0 with reach 0, 1 with reach 2 over 1 and 2. From place 4 both pages wait with 3. 0 is found with 3;
        // 1 is 1 away, below that, and spared; 2 could be 1 and 2 away, not below that, and is as far as 0.
        LikePages x = plane(2, "g c a");
        due("farthest", x.farthest(w("d"), 1, 0), 0);
        dueCost(x, 3, 1, 3, 1);
    }

    static void promise30_farthest_ofLikeBoundsNotThePagesOrder() {
        // Places 2, 6, 5, 8: root 0 over page 1, 1 (reach 2) over page 3; page 3: 1 (reach 1) over 1 and 2, 3 over 3. From
        // place 5 pages 1 and 3 wait with 3, and page 1 lets that of 0 wait with 3, too. Page 3 came ahead of that: 3 is
        // measured, and waits with 3, 1 with 2. 0 is found with 3, then 3, which is as far; that of 1 is below the limit.
        LikePages x = plane(2, "b f e h");
        due("farthest", x.farthest(w("e"), 1, 0), 0);
        dueCost(x, 3, 0, 5, 1);
    }

    static void promise30_farthest_innerEntriesAtTheLimit() {
        // Places 3, 1, 6, 4, 8: root 0 (reach 2) over page 1, 2 (reach 2) over page 4; page 1: 0 (reach 1) over 0 and 3, 1 over
        // 1; page 4: 2 (reach 2) over 2 and 4. From place 4, k 2: page 4 has 4; 2 is found with 2 and 4 with 4. Page 1 has 3,
        // not below the limit 2; there 0 could be 1 and 1 away, just the limit, and waits with 2; 1 is 3 away, and waits with
        // 3. It is found, and what 0 waits with is below the limit then.
        LikePages x = plane(2, "c a f d h");
        due("first", x.farthest(w("d"), 2, 0), 4);
        dueCost(x, 4, 0, 5, 2);
        due("second", x.farthest(w("d"), 2, 1), 1);
    }

    static void promise30_farthest_innerPagesWaitWithJustTheLimit() {
        // Places 1, 7, 5, 4 as above. From place 3, k 2: page 3 has 4; 1 waits with 4, 2 with 3. 1 is found with 4, 2 with 2;
        // 3 could be 3 away, and is measured. Page 1 has 2, just the limit, and so has that of 0, who has a lesser number.
        LikePages x = plane(2, "a g e d");
        due("first", x.farthest(w("c"), 2, 0), 1);
        dueCost(x, 4, 0, 6, 2);
        due("second", x.farthest(w("c"), 2, 1), 0);
    }

    static void promise30_farthest_rootIsGoneIntoFromAnyWord() {
        LikePages x = plane(4, "a");
        due("far as can be", x.farthest(531440, 1, 0), 0);
        dueCost(x, 1, 0, 1, 1);
        due("not far at all", x.farthest(1, 1, 0), 0);
        dueCost(x, 1, 0, 1, 1);
    }

    static void promise30_farthest_wayIsFromTheCentre() {
        // Places 1, 2, 3, 8, with 0 told from 1 to 2: as centres 1 and 3 reach 1, all other twos 2 or more.
        LikePages x = plane(3, "a b c h");
        x.tell(1, 2, 0);
        due("centres", x.entry(0, 0, 0) * 10 + x.entry(0, 1, 0), 13);
        // From place 8 the pages' bounds are 7 and 0. In the first one 0 makes the limit 7; 1 and 2 are 6 and way 0.
        due("farthest from place 8", x.farthest(w("h"), 1, 0), 0);
        dueCost(x, 3, 2, 2, 1);
    }

    static void promise30_farthest_isNotTold() {
        LikePages x = of("a b c");
        x.tell(0, 2, 99);
        due("of like ones by the measure the least", x.farthest(w("a"), 1, 0), 1);
    }

    // ---- 31

    static void promise31_cost_aheadOfAny() {
        LikePages x = deep();
        for (int what = 0; what < 4; what++) {
            due("cost " + what, x.cost(what), NONE);
        }
        x.scan(w("a"), 9);
        due("a scan is none of these", x.cost(0), NONE);
    }

    static void promise31_cost_forOthers() {
        LikePages x = deep();
        x.near(w("a"), 1, 0);
        for (int what : new int[] {LEAST, -2, -1, 4, 5, 40, GREATEST}) {
            due("cost " + what, x.cost(what), NONE);
        }
    }

    static void promise31_cost_refusedSearchesLeaveIt() {
        LikePages x = deep();
        x.near(w("e"), 1, 0);
        x.within(0, 1, NONE);
        x.within(w("a"), 100, NONE);
        x.around(4, 1, NONE);
        x.near(w("a"), 0, NONE);
        x.beside(0, 41, NONE);
        x.farthest(9, 1, NONE);
        dueCost(x, 4, 0, 3, 1);
        type(x, "near a 41;within a 100");
        due("perform", x.perform(), 2);
        dueCost(x, 4, 0, 3, 1);
    }

    static void promise31_cost_ofTheLatestByACommand() {
        LikePages x = deep();
        x.within(w("a"), 99, NONE);
        dueCost(x, 4, 0, 6, 4);
        type(x, "within a 99;near e 1;size");
        due("perform", x.perform(), 3);
        dueCost(x, 4, 0, 3, 1);
        type(x, "within d 0");
        x.perform();
        due("answered", x.cost(3), 1);
    }

    static void promise31_cost_noneSuchWasAskedAllTheSame() {
        LikePages x = deep();
        due("no such place", x.near(w("e"), 1, 39), NONE);
        dueCost(x, 4, 0, 3, 1);
        for (int i : new int[] {LEAST, -2, 4, 40, GREATEST}) {
            x = deep();
            due("within, " + i, x.within(w("a"), 99, i), NONE);
            due("asked", x.cost(3), 4);
            x = deep();
            due("around, " + i, x.around(0, 99, i), NONE);
            due("asked", x.cost(3), 4);
            x = deep();
            due("near, " + i, x.near(w("a"), 40, i), NONE);
            due("asked", x.cost(3), 4);
            x = deep();
            due("beside, " + i, x.beside(0, 40, i), NONE);
            due("asked", x.cost(3), 4);
            x = deep();
            due("farthest, " + i, x.farthest(w("a"), 40, i), NONE);
            due("asked", x.cost(3), 4);
        }
    }

    static void promise31_cost_eachThingIsMeasuredOnce() {
        LikePages x = deep();
        x.within(w("a"), 99, NONE);
        due("entries", x.is(7), 9);
        due("things measured", x.cost(0), 4);
        x.farthest(w("a"), 40, NONE);
        due("things measured", x.cost(0), 4);
    }

    static void promise31_cost_stepsAndImagesLeaveIt() {
        LikePages x = deep();
        x.near(w("e"), 1, 0);
        x.undo();
        dueCost(x, 4, 0, 3, 1);
        x.back();
        dueCost(x, 4, 0, 3, 1);
        x.put(w("b"));
        dueCost(x, 4, 0, 3, 1);
    }

    // ---- 32

    static void promise32_scan_noWord() {
        LikePages x = deep();
        for (int word : NO_WORDS) {
            due("scan " + word, x.scan(word, 1), NONE);
        }
    }

    static void promise32_scan_rTooSmallAndTooLarge() {
        LikePages x = deep();
        for (int r : NO_FARS) {
            due("r " + r, x.scan(w("a"), r), NONE);
        }
    }

    static void promise32_scan_rNoughtAndNinetyNine() {
        LikePages x = deep();
        due("r 0", x.scan(w("d"), 0), 1);
        due("r 99", x.scan(w("d"), 99), 4);
        due("just r", x.scan(w("e"), 2), 2);
        due("less", x.scan(w("e"), 1), 1);
        due("none", x.scan(w("e"), 0), 0);
    }

    static void promise32_scan_ofNoneAndOfForty() {
        due("none", new LikePages().scan(1, 99), 0);
        due("forty", forty().scan(1, 99), 40);
    }

    static void promise32_scan_isNotTold() {
        LikePages x = of("a b");
        x.tell(0, 1, 99);
        x.tell(1, 0, 0);
        due("by the measure", x.scan(w("a"), 1), 2);
        due("r 0", x.scan(w("a"), 0), 1);
    }
}
