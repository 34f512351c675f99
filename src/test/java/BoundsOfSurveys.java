/** Boundary cases of promises 33 to 46: what is told of all distances together. */
final class BoundsOfSurveys extends Bounds {
    private static final int[] NO_FARS = {LEAST, -2, -1, 100, 101, 1000, GREATEST};
    private static final int[] NO_PLACES = {LEAST, LEAST + 1, -3, -2, 40, 41, 780, GREATEST};

    /** Places 1, 2, 3 on the line. */
    private static LikePages three() {
        return plane(4, "a b c");
    }

    // ---- 33

    static void promise33_broken_forOthers() {
        LikePages x = three();
        x.tell(2, 1, 0);
        for (int what : new int[] {LEAST, -2, -1, 4, 5, 40, GREATEST}) {
            due("broken " + what, x.broken(what), false);
        }
    }

    static void promise33_broken_ofNoneOneAndTwo() {
        for (int what = 0; what < 4; what++) {
            due("of none " + what, new LikePages().broken(what), false);
            due("of one " + what, of("a").broken(what), false);
            due("of two " + what, of("a b").broken(what), false);
        }
        LikePages x = of("a b");
        x.tell(0, 1, 99);
        due("two have no third", x.broken(3), false);
    }

    static void promise33_broken_byNoMeasureAlone() {
        LikePages x = of("a b ab abc hhhhhh hab bcdefg");
        for (int m = 0; m < 4; m++) {
            x.measure(m);
            for (int what = 0; what < 4; what++) {
                due("broken " + m + " " + what, x.broken(what), false);
            }
        }
    }

    static void promise33_broken_oneToItselfCannotBeTold() {
        LikePages x = three();
        x.tell(1, 1, 5);
        due("broken", x.broken(0), false);
        due("breaks", x.breaks(0, 0), NONE);
    }

    static void promise33_broken_farOfNought() {
        LikePages x = three();
        x.tell(0, 1, 1);
        due("1 is none", x.broken(1), false);
        x.tell(2, 0, 0);
        due("0 is one, from the greater, too", x.broken(1), true);
    }

    static void promise33_broken_unlikeThereAndBack() {
        LikePages x = three();
        x.tell(0, 2, 7);
        due("one way", x.broken(2), true);
        x.tell(2, 0, 7);
        due("both ways alike", x.broken(2), false);
        x.tell(2, 0, 8);
        due("by 1", x.broken(2), true);
    }

    static void promise33_broken_moreThanBothTogether() {
        LikePages x = three();
        due("just both", x.broken(3), false);
        x.tell(0, 2, 3);
        due("more by 1", x.broken(3), true);
        x.tell(0, 2, 2);
        due("just both, told", x.broken(3), false);
        x.tell(2, 0, 3);
        due("the other way", x.broken(3), true);
    }

    static void promise33_broken_threeMustBeUnlike() {
        LikePages x = of("a b");
        x.tell(0, 1, 0);
        x.tell(1, 0, 99);
        // From 1 to 0 is more than from 1 to 1 and from 1 to 0 less nothing: no three unlike ones.
        due("of two", x.broken(3), false);
    }

    // ---- 34

    static void promise34_breaks_forOthers() {
        LikePages x = three();
        x.tell(0, 2, 3);
        for (int n : new int[] {LEAST, -2, -1, 3, 4, 40, GREATEST}) {
            due("which " + n, x.breaks(3, n), NONE);
            due("what " + n, x.breaks(n == 3 ? 5 : n, 0), NONE);
        }
    }

    static void promise34_breaks_noneBroken() {
        LikePages x = three();
        for (int what = 0; what < 4; what++) {
            for (int which = 0; which < 3; which++) {
                due("breaks " + what + " " + which, x.breaks(what, which), NONE);
                due("of none " + what, new LikePages().breaks(what, which), NONE);
            }
        }
    }

    static void promise34_breaks_cWhereThereIsOne() {
        LikePages x = three();
        x.tell(0, 2, 0);
        due("1: c", x.breaks(1, 2), NONE);
        due("2: c", x.breaks(2, 2), NONE);
        // From 0 to 1 is 1, from 0 to 2 and from 2 to 1 are 0 and 1: that is none. From 1 to 2 the same.
        due("3: a", x.breaks(3, 0), NONE);
        x.tell(0, 2, 99);
        due("3: a", x.breaks(3, 0), 0);
        due("3: b", x.breaks(3, 1), 1);
        due("3: c", x.breaks(3, 2), 2);
    }

    static void promise34_breaks_firstByAThenByB() {
        LikePages x = three();
        x.tell(2, 1, 0);
        due("1: a", x.breaks(1, 0), 2);
        due("1: b", x.breaks(1, 1), 1);
        x.tell(2, 0, 0);
        due("1: the lesser b", x.breaks(1, 1), 0);
        x.tell(1, 2, 0);
        due("1: the lesser a", x.breaks(1, 0), 1);
        due("1: its b", x.breaks(1, 1), 2);
    }

    static void promise34_breaks_aBelowB() {
        LikePages x = three();
        x.tell(2, 1, 9);
        due("2: a", x.breaks(2, 0), 1);
        due("2: b", x.breaks(2, 1), 2);
        x.tell(2, 0, 9);
        due("2: the lesser a", x.breaks(2, 0), 0);
        due("2: its b", x.breaks(2, 1), 2);
        x.tell(1, 0, 9);
        due("2: the lesser b", x.breaks(2, 1), 1);
    }

    static void promise34_breaks_firstByBThenByC() {
        LikePages x = plane(4, "a b c d");
        // Places 1, 2, 3, 4. From 0 to 3 is told 9: first by b 1 (1 and 2), not by 2.
        x.tell(0, 3, 9);
        due("b", x.breaks(3, 1), 1);
        due("c", x.breaks(3, 2), 3);
        // From 0 to 2, too: by b 1 the lesser c.
        x.tell(0, 2, 9);
        due("a", x.breaks(3, 0), 0);
        due("b", x.breaks(3, 1), 1);
        due("the lesser c", x.breaks(3, 2), 2);
    }

    static void promise34_breaks_firstAndLastOfForty() {
        LikePages x = forty();
        x.tell(39, 38, 0);
        due("1: a", x.breaks(1, 0), 39);
        due("1: b", x.breaks(1, 1), 38);
        x.wipe();
        x.tell(38, 39, 99);
        due("2: a", x.breaks(2, 0), 38);
        due("2: b", x.breaks(2, 1), 39);
        due("3: a", x.breaks(3, 0), 38);
        due("3: b", x.breaks(3, 1), 0);
        due("3: c", x.breaks(3, 2), 39);
    }

    // ---- 35

    static void promise35_covers_noInnerPages() {
        due("of none", new LikePages().covers(), true);
        LikePages x = of("a b");
        x.tell(0, 1, 99);
        due("of a leaf", x.covers(), true);
    }

    static void promise35_covers_reachJustFar() {
        LikePages x = deep();
        x.tight();
        due("tight", x.covers(), true);
        x = line();
        due("line", x.covers(), true);
        due("reach", x.entry(0, 0, 1), 2);
        due("far", x.far(0, 1), 2);
    }

    static void promise35_covers_reachBelowFarByOne() {
        LikePages x = of("f e a c");
        x.cap(2);
        x.tell(0, 1, 0);
        x.tell(1, 3, 0);
        due("reach of 0", x.entry(0, 0, 1), 0);
        due("far to 3, below it", x.far(0, 3), 1);
        due("covers", x.covers(), false);
        x.undo();
        due("with one told", x.covers(), true);
    }

    // ---- 36

    static void promise36_pair_forOthers() {
        LikePages x = three();
        for (int what : new int[] {LEAST, -2, -1, 2, 3, 40, GREATEST}) {
            due("pair " + what, x.pair(what), NONE);
        }
    }

    static void promise36_pair_noTwo() {
        for (int what = 0; what < 2; what++) {
            due("of none", new LikePages().pair(what), NONE);
            due("of one", of("a").pair(what), NONE);
        }
        LikePages x = of("a b");
        x.drop(0);
        due("of one left", x.pair(0), NONE);
    }

    static void promise36_pair_ofLikeOnesTheLeast() {
        LikePages x = of("a b c d");
        due("least", x.pair(0), 1);
        due("greatest", x.pair(1), 1);
        x.drop(0);
        due("least", x.pair(0), 42);
        due("greatest", x.pair(1), 42);
    }

    static void promise36_pair_fromTheLesser() {
        LikePages x = of("a b c d");
        x.tell(3, 2, 0);
        x.tell(2, 1, 99);
        due("least", x.pair(0), 1);
        due("greatest", x.pair(1), 1);
        x.tell(2, 3, 0);
        x.tell(1, 2, 99);
        due("least", x.pair(0), 2 * 40 + 3);
        due("greatest", x.pair(1), 1 * 40 + 2);
    }

    static void promise36_pair_lastTwoOfForty() {
        LikePages x = forty();
        x.tell(38, 39, 0);
        due("least", x.pair(0), 38 * 40 + 39);
        x.tell(38, 39, 99);
        due("greatest", x.pair(1), 38 * 40 + 39);
    }

    // ---- 37

    static void promise37_couple_rTooSmallAndTooLarge() {
        LikePages x = three();
        for (int r : NO_FARS) {
            due("r " + r, x.couple(r, NONE), NONE);
            due("r, first " + r, x.couple(r, 0), NONE);
        }
    }

    static void promise37_couple_rNoughtAndNinetyNine() {
        LikePages x = three();
        due("r 0", x.couple(0, NONE), 0);
        x.tell(0, 2, 99);
        x.tell(1, 2, 0);
        due("r 0, one told 0", x.couple(0, NONE), 1);
        due("which", x.couple(0, 0), 42);
        due("r 98", x.couple(98, NONE), 2);
        due("r 99", x.couple(99, NONE), 3);
    }

    static void promise37_couple_farJustR() {
        LikePages x = three();
        due("r 1", x.couple(1, NONE), 2);
        due("r 2", x.couple(2, NONE), 3);
    }

    static void promise37_couple_noneSuch() {
        LikePages x = three();
        for (int i : NO_PLACES) {
            due("i " + i, x.couple(99, i), NONE);
        }
        due("the last", x.couple(99, 2), 42);
        due("one more", x.couple(99, 3), NONE);
        due("of none found", x.couple(0, 0), NONE);
    }

    static void promise37_couple_noTwo() {
        due("of none", new LikePages().couple(99, NONE), 0);
        due("of one", of("a").couple(99, NONE), 0);
        due("of one, first", of("a").couple(99, 0), NONE);
    }

    static void promise37_couple_ofForty() {
        LikePages x = forty();
        due("how many", x.couple(99, NONE), 780);
        due("first", x.couple(99, 0), 1);
        due("the last with 0", x.couple(99, 38), 39);
        due("the first with 1", x.couple(99, 39), 42);
        due("last", x.couple(99, 779), 38 * 40 + 39);
        due("one more", x.couple(99, 780), NONE);
    }

    static void promise37_couple_fromTheLesser() {
        LikePages x = three();
        x.tell(2, 0, 0);
        due("told from the greater", x.couple(1, NONE), 2);
        due("1 and 2 come next, not 0 and 2", x.couple(1, 1), 42);
        x.tell(0, 2, 1);
        due("told from the lesser", x.couple(1, NONE), 3);
        due("by a, then b", x.couple(1, 1), 2);
    }

    // ---- 38

    static void promise38_spaced_justThatFar() {
        LikePages x = three();
        due("0", x.spaced(0), 0);
        due("1", x.spaced(1), 2);
        due("2", x.spaced(2), 1);
        due("3", x.spaced(3), 0);
    }

    static void promise38_spaced_outOfAnyReach() {
        LikePages x = three();
        for (int far : NO_FARS) {
            due("spaced " + far, x.spaced(far), 0);
        }
    }

    static void promise38_spaced_toldNoughtAndNinetyNine() {
        LikePages x = three();
        x.tell(0, 1, 0);
        x.tell(1, 2, 99);
        x.tell(2, 0, 50);
        due("0", x.spaced(0), 1);
        due("99", x.spaced(99), 1);
        due("98", x.spaced(98), 0);
        due("100", x.spaced(100), 0);
        due("told from the greater", x.spaced(50), 0);
    }

    static void promise38_spaced_noTwoAndForty() {
        due("of none", new LikePages().spaced(0), 0);
        due("of one: not to itself", of("a").spaced(0), 0);
        LikePages x = forty();
        due("all are 1 or 2 apart", x.spaced(1) + x.spaced(2), 780);
    }

    // ---- 39

    static void promise39_lonely_noTwo() {
        LikePages x = new LikePages();
        due("of none", x.lonely(), NONE);
        x.put(w("a"));
        due("of one", x.lonely(), NONE);
        x.put(w("b"));
        due("of two", x.lonely(), 0);
        x.drop(0);
        due("of one left", x.lonely(), NONE);
    }

    static void promise39_lonely_ofLikeOnesTheLeast() {
        LikePages x = plane(4, "a c e");
        due("all have 2", x.lonely(), 0);
        x.drop(0);
        due("both have 2", x.lonely(), 1);
        x = plane(4, "a b g h");
        due("all have 1", x.lonely(), 0);
    }

    static void promise39_lonely_leastFarToAnother() {
        LikePages x = plane(4, "a b d h");
        due("8 is 4 from 4", x.lonely(), 3);
        x.tell(3, 0, 0);
        due("told from it", x.lonely(), 2);
        x.tell(3, 0, 99);
        due("the least counts", x.lonely(), 3);
        x.tell(0, 3, 0);
        due("told to it", x.lonely(), 3);
    }

    static void promise39_lonely_leastOfNought() {
        LikePages x = of("a b c");
        x.drop(0);
        x.tell(1, 2, 0);
        x.tell(2, 1, 0);
        due("both have 0", x.lonely(), 1);
    }

    /** What is 1 from a thing is told to be 2 from it. */
    private static void setApart(LikePages x, int thing) {
        for (int other = 0; other < 40; other++) {
            if (x.far(thing, other) == 1) {
                x.tell(thing, other, 2);
            }
        }
    }

    static void promise39_lonely_firstAndLastOfForty() {
        LikePages x = forty();
        due("all have 1", x.lonely(), 0);
        setApart(x, 39);
        due("39 has 2", x.lonely(), 39);
        x = forty();
        setApart(x, 0);
        due("0 has 2", x.lonely(), 0);
        x.tell(0, 39, 0);
        due("0 has 0", x.lonely(), 1);
    }

    // ---- 40

    static void promise40_pivot_noneSuch() {
        LikePages x = three();
        for (int i : NO_PLACES) {
            due("pivot " + i, x.pivot(i), NONE);
        }
        due("pivot -1", x.pivot(NONE), NONE);
        due("the last", x.pivot(2), 2);
        due("one more", x.pivot(3), NONE);
        due("of none", new LikePages().pivot(0), NONE);
        due("of one", of("a").pivot(0), 0);
        due("no second", of("a").pivot(1), NONE);
    }

    static void promise40_pivot_firstIsTheMiddle() {
        LikePages x = three();
        due("middle", x.middle(), 1);
        due("first", x.pivot(0), 1);
    }

    static void promise40_pivot_ofLikeOnesTheLeast() {
        LikePages x = three();
        due("0 and 2 are 1 from 1", x.pivot(1), 0);
        due("then 2", x.pivot(2), 2);
        x = of("a b c d");
        for (int i = 0; i < 4; i++) {
            due("all alike " + i, x.pivot(i), i);
        }
    }

    static void promise40_pivot_notOneOfThese() {
        LikePages x = of("a b");
        x.tell(0, 1, 0);
        due("first", x.pivot(0), 0);
        due("second", x.pivot(1), 1);
        x = of("a b c");
        x.tell(0, 1, 0);
        x.tell(0, 2, 0);
        due("first", x.pivot(0), 0);
        due("second", x.pivot(1), 1);
        due("third", x.pivot(2), 2);
    }

    static void promise40_pivot_leastFarFromThose() {
        // Places 1, 3, 4, 8: sums 12, 8, 8, 16: 1 first; then 3 (5 away); then 0, 2 from 1, ahead of 2, 1 from it.
        LikePages x = plane(4, "a c d h");
        int[] pivots = {1, 3, 0, 2};
        for (int i = 0; i < 4; i++) {
            due("pivot " + i, x.pivot(i), pivots[i]);
        }
        // From 3 to 0 is told 0: after 3, 0 has 0 and 2 has 1. From 0 to 3 would tell nothing.
        x.tell(3, 0, 0);
        due("pivot 2", x.pivot(2), 2);
        due("pivot 3", x.pivot(3), 0);
    }

    static void promise40_pivot_toldNinetyNine() {
        LikePages x = of("a b c");
        x.tell(0, 1, 99);
        x.tell(0, 2, 98);
        x.tell(1, 0, 99);
        x.tell(2, 0, 98);
        // Sums: 197, 100, 99. From 2: to 0 is 98, to 1 is 1.
        due("first", x.pivot(0), 2);
        due("second", x.pivot(1), 0);
        due("third", x.pivot(2), 1);
    }

    static void promise40_pivot_ninetyNineIsMoreThanNinetyEight() {
        LikePages x = of("a b c");
        x.tell(0, 1, 98);
        x.tell(0, 2, 99);
        x.tell(1, 0, 99);
        x.tell(1, 2, 98);
        x.tell(2, 0, 99);
        x.tell(2, 1, 98);
        due("first", x.pivot(0), 0);
        due("second", x.pivot(1), 2);
        due("third", x.pivot(2), 1);
    }

    static void promise40_pivot_allForty() {
        LikePages x = forty();
        long seen = 0;
        for (int i = 0; i < 40; i++) {
            seen |= 1L << x.pivot(i);
        }
        due("each once", seen, (1L << 40) - 1);
        due("no more", x.pivot(40), NONE);
    }

    static void promise40_pivot_leastNotTogether() {
        // Places 4, 1, 8, 6, 7. The middle is 3; 1 is 5 from it. Of the rest 0 is 2 and 3 from both, 2 is 2 and 7, 4 is 1
        // and 6: 0 and 2 are like by the least, though 2 is more together.
        LikePages x = plane(4, "d a h f g");
        int[] pivots = {3, 1, 0, 2, 4};
        for (int i = 0; i < 5; i++) {
            due("pivot " + i, x.pivot(i), pivots[i]);
        }
    }

    // ---- 41

    static void promise41_letter_noThing() {
        LikePages x = of("abc");
        for (int thing : WRONG) {
            due("letter of " + thing, x.letter(thing, 0), NONE);
        }
        due("letter of -1", x.letter(NONE, 0), NONE);
        due("the first free one", x.letter(1, 0), NONE);
        due("of none", new LikePages().letter(0, 0), NONE);
    }

    static void promise41_letter_noneSuch() {
        LikePages x = of("abc h hhhhhh");
        for (int i : new int[] {LEAST, -2, -1, 6, 7, 40, GREATEST}) {
            for (int thing = 0; thing < 3; thing++) {
                due("letter " + i, x.letter(thing, i), NONE);
            }
        }
        due("behind three", x.letter(0, 3), NONE);
        due("behind one", x.letter(1, 1), NONE);
    }

    static void promise41_letter_firstAndLast() {
        LikePages x = of("abc h gbcdef");
        due("first of three", x.letter(0, 0), 1);
        due("last of three", x.letter(0, 2), 3);
        due("the only one", x.letter(1, 0), 8);
        due("first of six", x.letter(2, 0), 7);
        due("last of six", x.letter(2, 5), 6);
    }

    // ---- 42

    static void promise42_middle_noneAndOne() {
        LikePages x = new LikePages();
        due("of none", x.middle(), NONE);
        x.put(w("a"));
        due("of one", x.middle(), 0);
        x.put(w("b"));
        x.drop(0);
        due("of one left", x.middle(), 1);
        x.drop(1);
        due("of none left", x.middle(), NONE);
    }

    static void promise42_middle_ofLikeOnesTheLeast() {
        due("of two", of("a b").middle(), 0);
        LikePages x = of("a b c d");
        due("of four", x.middle(), 0);
        x.drop(0);
        due("of three left", x.middle(), 1);
    }

    static void promise42_middle_farToAllOthers() {
        LikePages x = three();
        due("middle", x.middle(), 1);
        x.tell(1, 0, 3);
        due("told from it: 4, where 0 has 3", x.middle(), 0);
        x.tell(1, 0, 2);
        due("told from it: 3, as 0 and 2 have", x.middle(), 0);
        x.tell(1, 0, 1);
        x.tell(0, 1, 99);
        due("told to it", x.middle(), 1);
    }

    static void promise42_middle_firstAndLastOfForty() {
        // Each has 11 that are 1 away and 28 that are 2 away.
        LikePages x = forty();
        due("all alike", x.middle(), 0);
        x.tell(39, 38, 0);
        due("less by 1", x.middle(), 39);
        x.tell(5, 39, 0);
        due("less by 2", x.middle(), 5);
    }

    // ---- 43

    static void promise43_groups_rTooSmallAndTooLarge() {
        LikePages x = three();
        for (int r : NO_FARS) {
            due("r " + r, x.groups(r, NONE), NONE);
            due("r of 0 " + r, x.groups(r, 0), NONE);
        }
    }

    static void promise43_groups_noThing() {
        LikePages x = three();
        for (int thing : WRONG) {
            due("group of " + thing, x.groups(1, thing), NONE);
        }
        due("the first free one", x.groups(1, 3), NONE);
        due("39", x.groups(1, 39), NONE);
    }

    static void promise43_groups_ofNoneAndOfOne() {
        LikePages x = new LikePages();
        due("of none", x.groups(99, NONE), 0);
        due("of none, 0", x.groups(99, 0), NONE);
        x.put(w("a"));
        due("of one", x.groups(0, NONE), 1);
        due("of one, 0", x.groups(0, 0), 1);
    }

    static void promise43_groups_farJustR() {
        LikePages x = plane(4, "a c h f");
        // 1 and 3 are 2 apart, 6 and 8 as well, 3 and 6 are 3 apart.
        due("r 1", x.groups(1, NONE), 4);
        due("r 2", x.groups(2, NONE), 2);
        due("of 0", x.groups(2, 0), 2);
        due("of 3", x.groups(2, 3), 2);
        due("r 3", x.groups(3, NONE), 1);
        due("and so on", x.groups(3, 0), 4);
    }

    static void promise43_groups_askedAgainWithAnotherR() {
        // Places 1, 3, 2: 0 is joined with 2, and 1 with 2.
        LikePages x = plane(4, "a c b");
        due("r 1", x.groups(1, 0), 3);
        for (int thing = 0; thing < 3; thing++) {
            due("r 0", x.groups(0, thing), 1);
        }
        due("r 0", x.groups(0, NONE), 3);
    }

    static void promise43_groups_rNoughtAndNinetyNine() {
        LikePages x = of("a b");
        x.tell(0, 1, 99);
        due("r 98", x.groups(98, NONE), 2);
        due("r 99", x.groups(99, NONE), 1);
        x.tell(0, 1, 0);
        due("r 0", x.groups(0, NONE), 1);
        x.tell(0, 1, 1);
        x.tell(1, 0, 0);
        due("told from the greater", x.groups(0, NONE), 2);
    }

    static void promise43_groups_ofForty() {
        LikePages x = forty();
        due("r 0", x.groups(0, NONE), 40);
        due("r 0 of 39", x.groups(0, 39), 1);
        due("r 1", x.groups(1, NONE), 1);
        due("r 1 of 39", x.groups(1, 39), 40);
    }

    // ---- 44

    static void promise44_chain_noThing() {
        LikePages x = three();
        for (int thing : WRONG) {
            due("chain from " + thing, x.chain(thing, 0), NONE);
        }
        due("chain from -1", x.chain(NONE, 0), NONE);
        due("the first free one", x.chain(3, 0), NONE);
        due("of none", new LikePages().chain(0, 0), NONE);
    }

    static void promise44_chain_noneSuch() {
        LikePages x = three();
        for (int i : NO_PLACES) {
            due("i " + i, x.chain(0, i), NONE);
        }
        due("i -1", x.chain(0, NONE), NONE);
        due("the last", x.chain(0, 2), 2);
        due("one more", x.chain(0, 3), NONE);
        due("of one", of("a").chain(0, 0), 0);
        due("no second", of("a").chain(0, 1), NONE);
    }

    static void promise44_chain_ofLikeOnesTheLeast() {
        LikePages x = three();
        due("itself", x.chain(1, 0), 1);
        due("0 and 2 are 1 away", x.chain(1, 1), 0);
        due("then 2", x.chain(1, 2), 2);
    }

    static void promise44_chain_farFromTheLastOne() {
        // Places 1, 3, 4, 8 from 3: 4, then 1 (3 away), then 8.
        LikePages x = plane(4, "a c d h");
        int[] chain = {1, 2, 0, 3};
        for (int i = 0; i < 4; i++) {
            due("chain " + i, x.chain(1, i), chain[i]);
        }
        x.tell(0, 2, 0);
        due("told to the last", x.chain(1, 2), 0);
        x.tell(2, 3, 0);
        due("told from the last", x.chain(1, 2), 3);
    }

    static void promise44_chain_allForty() {
        LikePages x = forty();
        long seen = 0;
        for (int i = 0; i < 40; i++) {
            seen |= 1L << x.chain(39, i);
        }
        due("each once", seen, (1L << 40) - 1);
        due("no more", x.chain(39, 40), NONE);
    }

    // ---- 45

    static void promise45_chainLong_noThing() {
        LikePages x = three();
        for (int thing : WRONG) {
            due("chain from " + thing, x.chainLong(thing), NONE);
        }
        due("chain from -1", x.chainLong(NONE), NONE);
        due("the first free one", x.chainLong(3), NONE);
        due("of none", new LikePages().chainLong(0), NONE);
    }

    static void promise45_chainLong_ofOneAndTwo() {
        due("of one", of("a").chainLong(0), 0);
        LikePages x = of("a b");
        x.tell(0, 1, 99);
        x.tell(1, 0, 0);
        due("from 0", x.chainLong(0), 99);
        due("from 1", x.chainLong(1), 0);
    }

    static void promise45_chainLong_together() {
        LikePages x = plane(4, "a c d h");
        due("2 and 1 and 4", x.chainLong(0), 7);
        due("1 and 3 and 7", x.chainLong(1), 11);
        due("4 and 1 and 2", x.chainLong(3), 7);
        due("of forty", forty().chainLong(0), 39);
    }

    // ---- 46

    static void promise46_mean_noTwo() {
        LikePages x = new LikePages();
        due("of none", x.mean(), 0);
        x.put(w("a"));
        due("of one", x.mean(), 0);
        x.put(w("b"));
        due("of two", x.mean(), Float.floatToIntBits(1f));
        x.drop(1);
        due("of one left", x.mean(), 0);
    }

    static void promise46_mean_nothingAndNinetyNine() {
        LikePages x = of("a b");
        x.tell(0, 1, 0);
        x.tell(1, 0, 50);
        due("0", x.mean(), 0);
        x.tell(0, 1, 99);
        due("99", x.mean(), Float.floatToIntBits(99f));
    }

    static void promise46_mean_belowOne() {
        // Six twos, of which one or five are told 0 and the others are 1, or a sixth alone.
        LikePages x = of("a b c d");
        x.tell(0, 1, 0);
        due("five sixths", x.mean(), Float.floatToIntBits(5f / 6f));
        x.tell(0, 2, 0);
        x.tell(0, 3, 0);
        due("a half", x.mean(), Float.floatToIntBits(0.5f));
        x.tell(1, 2, 0);
        x.tell(1, 3, 0);
        due("a sixth", x.mean(), Float.floatToIntBits(1f / 6f));
        x.tell(2, 3, 0);
        due("nothing", x.mean(), 0);
    }

    static void promise46_mean_eachPowerOfTwo() {
        LikePages x = of("a b");
        for (int far = 1; far < 99; far = far * 2 + 1) {
            x.tell(0, 1, far);
            due("far " + far, x.mean(), Float.floatToIntBits((float) far));
            x.tell(0, 1, far + 1);
            due("far " + (far + 1), x.mean(), Float.floatToIntBits((float) (far + 1)));
        }
    }

    static void promise46_mean_isRoundedAsAFloat() {
        LikePages x = of("a b c");
        for (int far = 0; far < 40; far++) {
            x.tell(0, 1, far);
            // The other two are 1 and 1.
            due("far " + far, x.mean(), Float.floatToIntBits((float) (far + 2) / 3f));
        }
    }

    static void promise46_mean_ofForty() {
        LikePages x = forty();
        // Each has 7 in its row and 4 in its column that are 1 away, the others are 2 away.
        int ones = 40 * 11 / 2;
        due("mean", x.mean(), Float.floatToIntBits((float) (2 * 780 - ones) / 780f));
    }
}
