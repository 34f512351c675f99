/** Boundary cases of promises 17 to 25: what is there, words, distances, pages. */
final class BoundsOfLooks extends Bounds {
    private static final int EDIT = 0;
    private static final int PLACE = 1;
    private static final int HEAD = 3;

    // ---- 17

    static void promise17_is_forOthers() {
        LikePages x = deep();
        for (int what : new int[] {LEAST, -2, -1, 10, 11, 40, GREATEST}) {
            due("is " + what, x.is(what), NONE);
        }
    }

    static void promise17_is_ofNone() {
        LikePages x = new LikePages();
        int[] is = {0, 1, 1, 1, 0, 4, 0, 0, 0, 0};
        for (int what = 0; what < 10; what++) {
            due("is " + what, x.is(what), is[what]);
        }
    }

    static void promise17_is_ofThreeLevels() {
        LikePages x = deep();
        x.tell(3, 0, 3);
        // Entries: 2 and 2 and 1 of inner pages, 4 of leaves. Reaches: 2 and 0, 0 and 1, 0.
        int[] is = {4, 6, 3, 3, 2, 2, 1, 9, 0, 3};
        for (int what = 0; what < 10; what++) {
            due("is " + what, x.is(what), is[what]);
        }
    }

    static void promise17_is_full() {
        LikePages x = forty();
        due("things", x.is(0), 40);
        due("entries", x.is(7), 40 + x.is(1) - 1);
    }

    static void promise17_is_overlapWhenFarIsJustBothReaches() {
        // Places 1, 2, 3: 0 with reach 0, 1 with reach 1 over 1 and 2, and 1 from 0.
        due("just both", plane(2, "a b c").is(8), 1);
        // Places 1, 3, 4: the same, but 2 from 0.
        due("more than both", plane(2, "a c d").is(8), 0);
        // Places 1, 2, 3, 4: 0 and 2, both with reach 1, are 2 apart; ccc is 6 from 2.
        LikePages x = plane(3, "a b c d");
        due("centres", x.entry(0, 0, 0) * 10 + x.entry(0, 1, 0), 2);
        x.put(w("ccc"));
        due("reach", x.entry(0, 1, 1), 6);
        due("less than both", x.is(8), 1);
    }

    static void promise17_is_overlapFromTheOneAhead() {
        LikePages x = plane(2, "a b c");
        x.tell(1, 0, 9);
        due("centres", x.entry(0, 0, 0) * 10 + x.entry(0, 1, 0), 1);
        due("told from the one behind", x.is(8), 1);
        x = plane(2, "a b c");
        x.tell(0, 1, 9);
        due("centres", x.entry(0, 0, 0) * 10 + x.entry(0, 1, 0), 1);
        due("told from the one ahead", x.is(8), 0);
    }

    static void promise17_is_noOverlapsInALeaf() {
        LikePages x = of("a b");
        x.tell(0, 1, 0);
        due("overlaps", x.is(8), 0);
    }

    static void promise17_is_overlapByBothReachesTogether() {
        // As in unlikeReaches, 0 reaches 1 and 2 reaches 4, but 2 is 5 from 0: above either reach, not above both.
        LikePages x = plane(3, "c b h hd");
        due("reaches", x.entry(0, 0, 1) * 10 + x.entry(0, 1, 1), 14);
        due("centres 5 apart", x.is(8), 1);
        x = plane(3, "b a h hd");
        due("reaches", x.entry(0, 0, 1) * 10 + x.entry(0, 1, 1), 14);
        due("centres 6 apart", x.is(8), 0);
    }

    // ---- 18

    static void promise18_word_forOthers() {
        LikePages x = of("a b c");
        for (int thing : WRONG) {
            due("word " + thing, x.word(thing), NONE);
        }
        due("word -1", x.word(NONE), NONE);
        due("the first free one", x.word(3), NONE);
        due("39", x.word(39), NONE);
        x.drop(1);
        due("a dropped one", x.word(1), NONE);
        due("of none", new LikePages().word(0), NONE);
    }

    static void promise18_word_firstAndLast() {
        LikePages x = forty();
        due("0", x.word(0), w("aa"));
        due("39", x.word(39), w("eh"));
        due("40", x.word(40), NONE);
    }

    // ---- 19

    static void promise19_thing_noWord() {
        // Free numbers have no word, which 0 must not be taken for.
        LikePages x = of("a b");
        for (int word : new int[] {LEAST, -1, 0, 9, 90, 531441, GREATEST}) {
            due("thing " + word, x.thing(word), NONE);
        }
        due("of none", new LikePages().thing(0), NONE);
    }

    static void promise19_thing_wordOfNoThing() {
        LikePages x = of("a b");
        due("c", x.thing(w("c")), NONE);
        due("aa", x.thing(w("aa")), NONE);
        x.drop(0);
        due("dropped", x.thing(w("a")), NONE);
        due("of none", new LikePages().thing(1), NONE);
    }

    static void promise19_thing_firstAndLast() {
        LikePages x = forty();
        due("first", x.thing(w("aa")), 0);
        due("last", x.thing(w("eh")), 39);
    }

    // ---- 20

    static void promise20_letters_leastAndGreatestOfEachLength() {
        LikePages x = new LikePages();
        int least = 1;
        int greatest = 8;
        for (int n = 1; n <= 6; n++) {
            due("letters " + least, x.letters(least), n);
            due("letters " + greatest, x.letters(greatest), n);
            due("letters " + (greatest + 1), x.letters(greatest + 1), NONE);
            due("letters " + (least - 1), x.letters(least - 1), NONE);
            least = least * 9 + 1;
            greatest = greatest * 9 + 8;
        }
    }

    static void promise20_letters_noWord() {
        LikePages x = new LikePages();
        for (int word : new int[] {LEAST, LEAST + 1, -1, -10, 0, 9, 18, 81, 82, 90, 531441, 531442, 597871, 4782969, GREATEST}) {
            due("letters " + word, x.letters(word), NONE);
        }
    }

    // ---- 21

    static void promise21_apart_noWord() {
        LikePages x = of("a b");
        for (int word : new int[] {LEAST, -1, 0, 9, 82, 531441, GREATEST}) {
            due("apart " + word, x.apart(word, 1), NONE);
            due("apart from " + word, x.apart(1, word), NONE);
            due("apart both " + word, x.apart(word, word), NONE);
        }
    }

    static void promise21_apart_likeWordsByEachMeasure() {
        LikePages x = new LikePages();
        for (int m = 0; m < 4; m++) {
            x.measure(m);
            due("a", x.apart(1, 1), 0);
            due("hhhhhh", x.apart(531440, 531440), 0);
            due("abc", x.apart(w("abc"), w("abc")), 0);
        }
    }

    private static void dueApart(int measure, String one, String other, int want) {
        LikePages x = new LikePages();
        x.measure(measure);
        due("apart " + one + " " + other, x.apart(w(one), w(other)), want);
        due("apart " + other + " " + one, x.apart(w(other), w(one)), want);
    }

    static void promise21_apart_editFewestChanges() {
        dueApart(EDIT, "a", "b", 1);
        dueApart(EDIT, "a", "aaaaaa", 5);
        dueApart(EDIT, "a", "hhhhhh", 6);
        dueApart(EDIT, "aaaaaa", "hhhhhh", 6);
        dueApart(EDIT, "abcdef", "bcdefa", 2);
        dueApart(EDIT, "abcdef", "bcdef", 1);
        dueApart(EDIT, "abcdef", "abcde", 1);
        dueApart(EDIT, "ab", "ba", 2);
        dueApart(EDIT, "abcabc", "cabcab", 2);
        dueApart(EDIT, "ace", "abcde", 2);
        dueApart(EDIT, "ba", "abb", 2);
    }

    static void promise21_apart_placeAlsoWhereTheOneHasNone() {
        dueApart(PLACE, "a", "b", 1);
        dueApart(PLACE, "a", "ab", 1);
        dueApart(PLACE, "a", "aaaaaa", 5);
        dueApart(PLACE, "a", "hhhhhh", 6);
        dueApart(PLACE, "abcdef", "bcdefa", 6);
        dueApart(PLACE, "aaaaaa", "aaaaab", 1);
        dueApart(PLACE, "abc", "cba", 2);
    }

    static void promise21_apart_sumWithNoughtWhereThereIsNone() {
        dueApart(SUM, "a", "h", 7);
        dueApart(SUM, "a", "aa", 1);
        dueApart(SUM, "a", "ah", 8);
        dueApart(SUM, "a", "hhhhhh", 47);
        dueApart(SUM, "aaaaaa", "hhhhhh", 42);
        dueApart(SUM, "aaaaaa", "aaaaab", 1);
        dueApart(SUM, "ah", "ha", 14);
    }

    static void promise21_apart_headSevenLessTheBeginning() {
        dueApart(HEAD, "a", "b", 7);
        dueApart(HEAD, "a", "hhhhhh", 7);
        dueApart(HEAD, "a", "aaaaaa", 6);
        dueApart(HEAD, "aaaaa", "aaaaaa", 2);
        dueApart(HEAD, "aaaaaa", "aaaaab", 2);
        dueApart(HEAD, "aaaaaa", "baaaaa", 7);
        dueApart(HEAD, "abc", "abd", 5);
        dueApart(HEAD, "ab", "abc", 5);
        dueApart(HEAD, "ab", "cb", 7);
    }

    static void promise21_apart_isNotTold() {
        LikePages x = of("a b");
        x.tell(0, 1, 99);
        due("by the measure", x.apart(w("a"), w("b")), 1);
    }

    // ---- 22

    static void promise22_far_noThings() {
        LikePages x = of("a b c");
        x.drop(2);
        for (int thing : WRONG) {
            due("from " + thing, x.far(thing, 0), NONE);
            due("to " + thing, x.far(0, thing), NONE);
            due("both " + thing, x.far(thing, thing), NONE);
        }
        due("from none", x.far(NONE, 0), NONE);
        due("to none", x.far(0, NONE), NONE);
        due("from a dropped one", x.far(2, 0), NONE);
        due("to a dropped one", x.far(0, 2), NONE);
        due("of none", new LikePages().far(0, 0), NONE);
    }

    static void promise22_far_toItself() {
        LikePages x = forty();
        due("0", x.far(0, 0), 0);
        due("39", x.far(39, 39), 0);
        due("from 0 to 39", x.far(0, 39), 2);
        due("from 39 to 0", x.far(39, 0), 2);
    }

    static void promise22_far_toldNoughtAndNinetyNine() {
        LikePages x = forty();
        x.tell(0, 39, 0);
        x.tell(39, 0, 99);
        due("from 0", x.far(0, 39), 0);
        due("from 39", x.far(39, 0), 99);
    }

    // ---- 23

    static void promise23_page_forOthers() {
        LikePages x = deep();
        for (int i : new int[] {LEAST, -2, -1, 6, 7, 40, GREATEST}) {
            due("page " + i, x.page(i, 0), -2);
        }
        for (int what : new int[] {LEAST, -2, -1, 6, 7, 40, GREATEST}) {
            due("what " + what, x.page(0, what), -2);
            due("what of the last " + what, x.page(5, what), -2);
        }
    }

    static void promise23_page_ofNone() {
        LikePages x = new LikePages();
        int[] root = {1, 0, -1, -1, 0, 0};
        for (int what = 0; what < 6; what++) {
            due("what " + what, x.page(0, what), root[what]);
        }
        due("page 1", x.page(1, 0), -2);
    }

    static void promise23_page_rootHasNoCentre() {
        LikePages x = deep();
        due("centre", x.page(0, 2), NONE);
        due("reach", x.page(0, 3), NONE);
        due("above", x.page(0, 4), 0);
        due("below", x.page(0, 5), 4);
    }

    static void promise23_page_eachAheadOfThoseBelowIt() {
        LikePages x = deep();
        int[][] pages = {{0, 2, -1, -1, 0, 4}, {0, 2, 1, 2, 1, 3}, {1, 1, 0, 0, 2, 1}, {1, 2, 1, 1, 2, 2},
            {0, 1, 2, 0, 1, 1}, {1, 1, 2, 0, 2, 1}};
        for (int i = 0; i < 6; i++) {
            for (int what = 0; what < 6; what++) {
                due("page " + i + " " + what, x.page(i, what), pages[i][what]);
            }
        }
    }

    static void promise23_page_fewerAfterBuilding() {
        LikePages x = deep();
        x.drop(3);
        due("page 5", x.page(5, 0), 1);
        x.build();
        due("page 2", x.page(2, 0), 1);
        due("page 3", x.page(3, 0), -2);
        due("page 5", x.page(5, 0), -2);
    }

    // ---- 24

    static void promise24_entry_forOthers() {
        LikePages x = deep();
        for (int n : new int[] {LEAST, -2, -1, 6, 7, 40, GREATEST}) {
            due("i " + n, x.entry(n, 0, 0), -2);
            due("k " + n, x.entry(0, n, 0), -2);
            due("what " + n, x.entry(0, 0, n), -2);
        }
        due("what 4", x.entry(0, 0, 4), -2);
        due("k of two", x.entry(0, 2, 0), -2);
        due("k of one", x.entry(5, 1, 0), -2);
        due("k of the last", x.entry(5, 0, 0), 2);
    }

    static void promise24_entry_ofNone() {
        LikePages x = new LikePages();
        due("entry 0", x.entry(0, 0, 0), -2);
        due("entry -1", x.entry(0, -1, 0), -2);
        x.put(1);
        due("entry 0", x.entry(0, 0, 0), 0);
        x.drop(0);
        due("gone", x.entry(0, 0, 0), -2);
    }

    static void promise24_entry_waysReachesAndPagesBelow() {
        LikePages x = deep();
        int[][] entries = {{0, 0, 1, 2, 0, 1}, {0, 1, 2, 0, 0, 4}, {1, 0, 0, 0, 2, 2}, {1, 1, 1, 1, 0, 3},
            {2, 0, 0, 0, 0, -1}, {3, 0, 1, 0, 0, -1}, {3, 1, 3, 0, 1, -1}, {4, 0, 2, 0, 0, 5}, {5, 0, 2, 0, 0, -1}};
        for (int[] e : entries) {
            for (int what = 0; what < 4; what++) {
                due("entry " + e[0] + " " + e[1] + " " + what, x.entry(e[0], e[1], what), e[2 + what]);
            }
        }
    }

    static void promise24_entry_wayInTheRootIsNought() {
        LikePages x = of("a hhhhhh");
        due("way in a leaf", x.entry(0, 1, 2), 0);
        x = line();
        due("way in an inner page", x.entry(0, 1, 2), 0);
    }

    static void promise24_entry_wayIsFromTheCentre() {
        LikePages x = line();
        x.tell(1, 0, 50);
        due("centre", x.page(1, 2), 0);
        due("told the other way", x.entry(1, 1, 2), 2);
        x.tell(0, 1, 1);
        due("centre", x.page(1, 2), 0);
        due("told", x.entry(1, 1, 2), 1);
    }

    static void promise24_entry_leafHasNoReachAndNoPageBelow() {
        LikePages x = forty();
        for (int i = 0; i < x.is(1) && i < 20; i++) {
            if (x.page(i, 0) == 1) {
                due("reach in " + i, x.entry(i, 0, 1), 0);
                due("below in " + i, x.entry(i, 0, 3), NONE);
            }
        }
    }

    // ---- 25

    static void promise25_leafOf_forOthers() {
        LikePages x = deep();
        for (int thing : WRONG) {
            due("leaf of " + thing, x.leafOf(thing), NONE);
        }
        due("leaf of -1", x.leafOf(NONE), NONE);
        due("the first free one", x.leafOf(4), NONE);
        due("39", x.leafOf(39), NONE);
        x.drop(3);
        due("dropped", x.leafOf(3), NONE);
        due("of none", new LikePages().leafOf(0), NONE);
    }

    static void promise25_leafOf_notWhereItIsACentre() {
        LikePages x = deep();
        int[] leaves = {2, 3, 5, 3};
        for (int thing = 0; thing < 4; thing++) {
            due("leaf of " + thing, x.leafOf(thing), leaves[thing]);
            due("is a leaf", x.page(x.leafOf(thing), 0), 1);
        }
    }

    static void promise25_leafOf_theRoot() {
        LikePages x = of("a b c d");
        for (int thing = 0; thing < 4; thing++) {
            due("leaf of " + thing, x.leafOf(thing), 0);
        }
    }
}
