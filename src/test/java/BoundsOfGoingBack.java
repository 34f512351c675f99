/** Boundary cases of promises 47 to 49: the image and the steps. */
final class BoundsOfGoingBack extends Bounds {
    // ---- 47

    static void promise47_image_ofNoneAndOfForty() {
        due("of none", new LikePages().image(), 0);
        due("of forty", forty().image(), 40);
    }

    static void promise47_image_isNoStep() {
        LikePages x = of("a b");
        due("image", x.image(), 2);
        due("steps", x.steps(), 2);
        due("undo takes the put back", x.undo(), 1);
        due("things", x.is(0), 1);
    }

    static void promise47_image_inPlaceOfTheOneBefore() {
        LikePages x = of("a b");
        x.image();
        x.put(w("c"));
        due("image", x.image(), 3);
        x.drop(0);
        due("back", x.back(), 3);
        x.drop(0);
        x.drop(1);
        x.drop(2);
        due("image of none again", x.image(), 0);
        x.put(w("h"));
        due("back", x.back(), 0);
    }

    static void promise47_image_withItsOwnStepsAlone() {
        LikePages x = of("a b c");
        x.image();
        x.undo();
        x.undo();
        due("image", x.image(), 1);
        due("back", x.back(), 1);
        due("steps", x.steps(), 1);
        x.put(w("d"));
        due("image", x.image(), 2);
        x.back();
        due("steps", x.steps(), 2);
        due("undo", x.undo(), 1);
        due("d is gone", x.thing(w("d")), NONE);
    }

    static void promise47_image_isNotChangedLater() {
        LikePages x = deep();
        x.tell(0, 3, 50);
        x.image();
        String before = seen(x);
        x.tell(0, 3, 60);
        x.tell(1, 0, 0);
        x.spell(2, w("b"));
        x.cap(6);
        x.measure(1);
        x.drop(0);
        x.tight();
        due("back", x.back(), 4);
        dueSame("what came later", x, before);
        due("told", x.far(0, 3), 50);
    }

    // ---- 48

    static void promise48_back_ofANewObject() {
        LikePages x = new LikePages();
        due("back", x.back(), 0);
        due("steps", x.steps(), 0);
        due("again", x.back(), 0);
    }

    static void promise48_back_imageStays() {
        LikePages x = of("a b");
        x.image();
        for (int n = 0; n < 3; n++) {
            x.put(w("c"));
            x.drop(0);
            due("back", x.back(), 2);
            due("word", x.word(0), w("a"));
            due("c is gone", x.thing(w("c")), NONE);
        }
    }

    static void promise48_back_whenNothingHasChanged() {
        LikePages x = deep();
        x.image();
        String before = seen(x);
        due("back", x.back(), 4);
        dueSame("back", x, before);
    }

    static void promise48_back_isNoStep() {
        LikePages x = of("a b");
        x.image();
        x.back();
        due("steps", x.steps(), 2);
        due("undo", x.undo(), 1);
        due("things", x.is(0), 1);
    }

    static void promise48_back_stepsAreAsTheyWere() {
        LikePages x = of("a b c");
        x.image();
        x.undo();
        x.undo();
        due("back", x.back(), 3);
        due("steps", x.steps(), 3);
        for (int n = 2; n >= 0; n--) {
            due("undo", x.undo(), n);
            due("things", x.is(0), n);
        }
        due("none left", x.undo(), NONE);
        due("back again", x.back(), 3);
        due("steps", x.steps(), 3);
    }

    static void promise48_back_twentyStepsOfTheImage() {
        LikePages x = new LikePages();
        for (int n = 0; n < 22; n++) {
            x.put((n / 8 + 1) * 9 + n % 8 + 1);
        }
        x.image();
        for (int n = 0; n < 25; n++) {
            x.build();
        }
        due("back", x.back(), 22);
        due("steps", x.steps(), 20);
        for (int n = 19; n >= 0; n--) {
            due("undo", x.undo(), n);
            due("things", x.is(0), n + 2);
        }
        due("none left", x.undo(), NONE);
        due("back again", x.back(), 22);
    }

    static void promise48_back_toTheNewObjectHasNoSteps() {
        LikePages x = of("a b c");
        due("back", x.back(), 0);
        due("steps", x.steps(), 0);
        due("undo", x.undo(), NONE);
    }

    static void promise48_back_reachesToo() {
        LikePages x = line();
        x.drop(1);
        x.image();
        due("tight", x.tight(), 2);
        x.back();
        due("reach", x.entry(0, 0, 1), 2);
        due("tight again", x.tight(), 2);
    }

    static void promise48_back_centresToldOnesAndWaysToo() {
        LikePages x = deep();
        x.tell(2, 3, 4);
        x.tell(0, 3, 3);
        x.image();
        x.drop(2);
        x.cap(6);
        x.back();
        int[] centres = {-1, 1, 0, 1, 2, 2};
        for (int i = 0; i < 6; i++) {
            due("centre of " + i, x.page(i, 2), centres[i]);
        }
        due("way", x.entry(1, 0, 2), 2);
        due("told", x.is(6), 2);
        x.measure(1);
        due("told", x.far(2, 3), 4);
        due("told", x.far(0, 3), 3);
        due("by the measure", x.far(3, 0), 1);
    }

    static void promise48_back_leavesSheetRepliesFaultAndCost() {
        LikePages x = of("a b");
        dueReplies(x, "size;near a 2", 2, "2;0,1");
        type(x, "size;size");
        due("back", x.back(), 0);
        due("the sheet", x.end(9), 9);
        due("no more", x.end(10), NONE);
        due("replies", replies(x).equals("2;0,1"), true);
        dueCost(x, 2, 0, 1, 2);
        dueFault(x, "size y", 5);
        x.back();
        due("the fault", x.fault(), 5);
        dueCost(x, 2, 0, 1, 2);
    }

    // ---- 49

    static void promise49_steps_none() {
        LikePages x = new LikePages();
        due("steps", x.steps(), 0);
        x.undo();
        due("steps", x.steps(), 0);
    }

    static void promise49_steps_twentyAtMost() {
        LikePages x = new LikePages();
        for (int n = 1; n <= 45; n++) {
            x.build();
            due("steps", x.steps(), n < 20 ? n : 20);
        }
        due("undo", x.undo(), 19);
        due("steps", x.steps(), 19);
        x.wipe();
        due("steps", x.steps(), 20);
        x.wipe();
        due("steps", x.steps(), 20);
    }

    static void promise49_steps_refusedCallsAreNone() {
        LikePages x = of("a b");
        x.put(w("a"));
        x.put(0);
        x.drop(NONE);
        x.measure(NONE);
        x.cap(7);
        x.tell(0, 1, 100);
        x.spell(0, w("a"));
        due("perform", x.perform(), NONE);
        due("steps", x.steps(), 2);
    }

    static void promise49_steps_asksAreNone() {
        LikePages x = of("a b");
        x.within(w("a"), 1, 0);
        x.near(w("a"), 1, 0);
        x.farthest(w("a"), 1, 0);
        x.broken(3);
        x.groups(1, 0);
        x.chain(0, 0);
        x.pivot(1);
        x.feed(0, 0, 0, 0, 0);
        x.end(0);
        x.image();
        x.steps();
        due("steps", x.steps(), 2);
    }

    static void promise49_steps_whatChangesNothingYetIsDone() {
        LikePages x = new LikePages();
        x.wipe();
        x.build();
        x.tight();
        x.measure(0);
        x.cap(4);
        type(x, "size");
        x.perform();
        type(x, "drop a");
        x.perform();
        due("steps", x.steps(), 7);
    }
}
