/** Boundary cases of promises 11 to 16: the sheet, commands, replies, steps that are taken back. */
final class BoundsOfTexts extends Bounds {
    private static final int BLANKS = 0x20202020;

    // ---- 11

    static void promise11_feed_threeHundredAtMost() {
        LikePages x = new LikePages();
        for (int n = 1; n <= 15; n++) {
            due("feed", x.feed(BLANKS, BLANKS, BLANKS, BLANKS, BLANKS), 20 * n);
        }
        due("feed beyond 300", x.feed(0, 0, 0, 0, 0), NONE);
        due("feed beyond 300 again", x.feed(1, 2, 3, 4, 5), NONE);
        due("none came", x.end(301), NONE);
        due("300 stay", x.end(300), 300);
    }

    static void promise11_feed_justUpToThreeHundred() {
        LikePages x = new LikePages();
        type(x, repeat("size", ";", 60));
        due("281", x.end(281), 281);
        due("feed beyond", x.feed(0, 0, 0, 0, 0), NONE);
        due("it has 281 yet", x.end(282), NONE);
        due("280", x.end(280), 280);
        due("feed up to 300", x.feed(BLANKS, BLANKS, BLANKS, BLANKS, BLANKS), 300);
    }

    static void promise11_feed_refusedLeavesTheSheet() {
        LikePages x = new LikePages();
        type(x, repeat("size", ";", 57));
        // 57 commands take 284 bytes.
        due("feed", x.feed(0, 0, 0, 0, 0), NONE);
        due("perform", x.perform(), 57);
    }

    static void promise11_feed_behindWhatIsThere() {
        LikePages x = new LikePages();
        type(x, "size;size");
        due("feed", x.feed(0x3b73697a, 0x65202020, BLANKS, BLANKS, BLANKS), 29);
        due("perform", x.perform(), 3);
    }

    static void promise11_feed_highestByteFirstInEach() {
        LikePages x = new LikePages();
        // "size", "cap ", "size" spread over all five.
        due("feed", x.feed(0x20207369, 0x7a652020, 0x3b636170, 0x20352020, 0x3b20203b), 20);
        x.end(17);
        x.feed(0x73697a65, BLANKS, BLANKS, BLANKS, BLANKS);
        due("perform", x.perform(), 3);
        due("replies", replies(x).equals("0;ok;0"), true);
    }

    static void promise11_feed_highBytesHaveNoSign() {
        LikePages x = new LikePages();
        // Bytes 255 and 128 are neither blanks nor an end.
        x.feed(0x73697a65, 0xffffffff, 0x80808080, LEAST, NONE);
        due("perform", x.perform(), NONE);
        due("fault", x.fault(), 4);
        x.feed(0x73697a65, BLANKS, BLANKS, BLANKS, 0x202020a0);
        due("perform", x.perform(), NONE);
        due("fault at the last byte", x.fault(), 19);
        // 243 is 's' with the highest bit.
        x.feed(0xf3697a65, BLANKS, BLANKS, BLANKS, BLANKS);
        due("perform", x.perform(), NONE);
        due("fault at the first byte", x.fault(), 0);
    }

    // ---- 12

    static void promise12_end_belowNothing() {
        LikePages x = new LikePages();
        type(x, "size");
        for (int n : new int[] {-1, -2, -300, LEAST + 1, LEAST}) {
            due("end " + n, x.end(n), NONE);
        }
        due("nothing is done", x.perform(), 1);
    }

    static void promise12_end_notSoMany() {
        LikePages x = new LikePages();
        due("of an empty sheet", x.end(1), NONE);
        type(x, "size");
        for (int n : new int[] {5, 6, 20, 300, 301, GREATEST - 1, GREATEST}) {
            due("end " + n, x.end(n), NONE);
        }
        due("nothing is done", x.perform(), 1);
    }

    static void promise12_end_justSoMany() {
        LikePages x = new LikePages();
        due("of an empty sheet", x.end(0), 0);
        x.feed(BLANKS, BLANKS, BLANKS, BLANKS, BLANKS);
        due("20", x.end(20), 20);
        due("19", x.end(19), 19);
        due("not back to 20", x.end(20), NONE);
        due("0", x.end(0), 0);
        due("none left", x.end(1), NONE);
    }

    static void promise12_end_firstBytesAlone() {
        LikePages x = new LikePages();
        x.feed(0x73697a65, 0x3b78797a, 0, 0, 0);
        due("end", x.end(4), 4);
        x.feed(0x3b73697a, 0x65202020, BLANKS, BLANKS, BLANKS);
        due("perform", x.perform(), 2);
    }

    // ---- 13

    static void promise13_perform_emptySheet() {
        LikePages x = of("a b");
        String before = seen(x);
        due("perform", x.perform(), NONE);
        due("fault", x.fault(), 0);
        due("replies", x.reply(NONE), 0);
        dueSame("perform", x, before);
    }

    static void promise13_perform_sheetIsEmptyThen() {
        LikePages x = new LikePages();
        type(x, "size");
        due("perform", x.perform(), 1);
        due("empty", x.end(1), NONE);
        due("feed", x.feed(BLANKS, BLANKS, BLANKS, BLANKS, BLANKS), 20);
    }

    static void promise13_perform_sheetIsEmptyThenWithAFaultToo() {
        LikePages x = new LikePages();
        type(x, "sizes");
        due("perform", x.perform(), NONE);
        due("empty", x.end(1), NONE);
        due("perform", x.perform(), NONE);
        due("fault of the empty one", x.fault(), 0);
    }

    static void promise13_perform_faultDoesNothing() {
        LikePages x = of("a b c");
        String before = seen(x);
        dueFault(x, "put d;drop a;cap 2;measure sum;drop b;x", 38);
        dueSame("a text with a fault", x, before);
    }

    static void promise13_perform_faultLeavesNoReplies() {
        LikePages x = new LikePages();
        dueReplies(x, "put a;put b;size", 3, "0;1;2");
        dueFault(x, "size;size;", 10);
        due("byte 0", x.reply(0), NONE);
    }

    static void promise13_perform_faultLeavesCost() {
        LikePages x = deep();
        x.near(w("e"), 1, 0);
        dueFault(x, "within a 9;;", 11);
        dueCost(x, 4, 0, 3, 1);
    }

    static void promise13_perform_oneCommandWithoutBlanks() {
        LikePages x = of("a b");
        dueReplies(x, "size", 1, "2");
        dueReplies(x, "near a2", 1, "0,1");
        dueReplies(x, "cap3", 1, "ok");
        dueReplies(x, "within a0;size;cap4", 3, "0;2;ok");
    }

    static void promise13_perform_blanksBetweenAllThings() {
        LikePages x = of("a b");
        dueReplies(x, "  near   a   2  ;   far   a  b ;  size  ", 3, "0,1;1;2");
    }

    static void promise13_perform_twoWordsWithoutABlankAreOne() {
        LikePages x = new LikePages();
        dueFault(x, "puta", 0);
        dueFault(x, "far ab", 6);
        dueFault(x, "measuresum", 0);
        dueFault(x, "near ab2size", 8);
        due("nothing was put", x.is(0), 0);
    }

    static void promise13_perform_wordOfOneToSixLetters() {
        LikePages x = new LikePages();
        dueReplies(x, "put a;put hhhhhh;put h;put abcdef", 4, "0;1;2;3");
        due("word", x.word(0), 1);
        due("word", x.word(1), 531440);
        due("word", x.word(3), w("abcdef"));
        dueFault(x, "put ;size", 4);
        dueFault(x, "put aaaaaaa", 4);
        dueFault(x, "drop aaaaaaa", 5);
        dueFault(x, "near aaaaaaa 1", 5);
        dueFault(x, "within aaaaaaa 1", 7);
        dueFault(x, "far aaaaaaa a", 4);
        dueFault(x, "far a aaaaaaa", 6);
    }

    static void promise13_perform_lettersBehindH() {
        LikePages x = new LikePages();
        for (String letter : new String[] {"i", "j", "z", "{", "`", "A", "H", "@"}) {
            dueFault(x, "put " + letter, 4);
            due("things", x.is(0), 0);
        }
        dueFault(x, "put aaaaai", 4);
        dueFault(x, "put iaaaaa", 4);
    }

    static void promise13_perform_numberOfOneToThreeDigits() {
        LikePages x = of("a b");
        dueReplies(x, "within a 0;within a 00;within a 000;within a 099;within a 99", 5, "0;0;0;0,1;0,1");
        dueReplies(x, "within a 999;near a 999;cap 999", 3, "no;no;no");
        dueFault(x, "within a 0000", 9);
        dueFault(x, "near a 0001", 7);
        dueFault(x, "cap 0004", 4);
        dueFault(x, "near a 1:", 8);
        dueFault(x, "near a /", 7);
        dueFault(x, "near a 99999999999999999999", 7);
    }

    static void promise13_perform_nearNOneToForty() {
        LikePages x = of("a b");
        dueReplies(x, "near a 0;near a 1;near a 40;near a 41", 4, "no;0;0,1;no");
    }

    static void promise13_perform_withinNNoughtToNinetyNine() {
        LikePages x = of("a b");
        dueReplies(x, "within a 0;within a 99;within a 100", 3, "0;0,1;no");
    }

    static void promise13_perform_capTwoToSix() {
        LikePages x = of("a b");
        dueReplies(x, "cap 1;size;cap 2;cap 6;cap 7;cap 0", 6, "no;2;ok;ok;no;no");
        due("cap", x.is(5), 6);
        dueReplies(x, "cap 2;cap 1", 2, "ok;no");
        due("cap", x.is(5), 2);
    }

    static void promise13_perform_putThereAlready() {
        LikePages x = of("a b");
        dueReplies(x, "put a;put b;put c;put c", 4, "no;no;2;no");
        due("things", x.is(0), 3);
    }

    static void promise13_perform_putWhenThereAreForty() {
        LikePages x = forty();
        x.drop(39);
        dueReplies(x, "put h;put g;drop h;put g;put h", 5, "39;no;39;39;no");
        due("things", x.is(0), 40);
    }

    static void promise13_perform_dropOfWhatIsNotThere() {
        LikePages x = of("a b");
        dueReplies(x, "drop c;drop a;drop a;drop b;drop b;size", 6, "no;0;no;1;no;0");
    }

    static void promise13_perform_noneFound() {
        LikePages x = new LikePages();
        dueReplies(x, "near a 40;within a 99;size", 3, "-;-;0");
        x = of("a b");
        dueReplies(x, "within hhh 0;within hhh 2;within c 0", 3, "-;-;-");
    }

    static void promise13_perform_farIsByTheMeasure() {
        LikePages x = of("a b");
        x.tell(0, 1, 99);
        dueReplies(x, "far a b;far a a;far hhhhhh a", 3, "1;0;6");
        dueReplies(x, "measure sum;far hhhhhh a", 2, "ok;47");
    }

    static void promise13_perform_nearAndWithinAreOfWords() {
        LikePages x = of("a b");
        x.tell(0, 1, 99);
        dueReplies(x, "near a 2;within a 1", 2, "0,1;0,1");
        // Were it of the thing, 2 would be nearer than 1.
        x = of("a b c");
        x.tell(0, 1, 99);
        dueReplies(x, "near a 2", 1, "0,1");
    }

    static void promise13_perform_measureByItsFourNames() {
        LikePages x = new LikePages();
        String[] names = {"edit", "place", "sum", "head"};
        for (int m = 3; m >= 0; m--) {
            dueReplies(x, "measure " + names[m], 1, "ok");
            due("which", x.is(4), m);
        }
        dueFault(x, "measure edi", 8);
        dueFault(x, "measure edits", 8);
        dueFault(x, "measure sun", 8);
        dueFault(x, "measure put", 8);
        dueFault(x, "measure a", 8);
        dueFault(x, "measure 0", 8);
    }

    static void promise13_perform_textOfThreeHundredBytes() {
        LikePages x = new LikePages();
        type(x, repeat("size", ";", 60) + " ");
        due("sixty commands", x.perform(), 60);
        due("bytes", x.reply(NONE), 119);
        type(x, repeat("cap2", ";", 60));
        due("sixty others", x.perform(), 60);
        due("bytes", x.reply(NONE), 179);
    }

    static void promise13_perform_dropOfACentreIsBuilt() {
        LikePages x = deep();
        dueReplies(x, "drop a", 1, "0");
        due("pages", x.is(1), 3);
        x = deep();
        dueReplies(x, "drop d", 1, "3");
        due("no centre", x.is(1), 6);
    }

    static void promise13_perform_measureAndCapAreBuilt() {
        LikePages x = deep();
        x.drop(3);
        dueReplies(x, "cap 2", 1, "ok");
        due("the same cap", x.is(1), 3);
        x = deep();
        x.drop(3);
        dueReplies(x, "cap 1", 1, "no");
        due("not built", x.is(1), 6);
        dueReplies(x, "measure sum", 1, "ok");
        due("the same measure", x.is(1), 3);
        dueReplies(x, "measure head", 1, "ok");
        due("far by it", x.far(0, 1), 7);
    }

    static void promise13_perform_numbersOfTwoDigits() {
        LikePages x = forty();
        dueReplies(x, "size;drop bc;drop cb;drop ed;put bc;put cb;put ed;size", 8, "40;10;17;35;10;17;35;40");
        dueReplies(x, "near bb 1;near bd 1;near ce 1;near eh 1;drop aa;drop bb;size", 7, "9;11;20;39;0;9;38");
    }

    static void promise13_perform_commandsByTheirWholeNames() {
        LikePages x = new LikePages();
        String[] texts = {"but a", "pet a", "pus a", "crop a", "drow a", "dear a 1", "neat a 1", "dithin a 1", "withim a 1",
            "feasure sum", "measurf sum", "tap 2", "cat 2", "car a a", "fat a a", "gize", "sizf"};
        for (String text : texts) {
            dueFault(x, text, 0);
        }
        for (String name : new String[] {"adit", "edif", "glace", "placf", "fum", "sun", "dead", "heaf"}) {
            dueFault(x, "measure " + name, 8);
        }
    }

    static void promise13_perform_laterCommandsSeeEarlierOnes() {
        LikePages x = new LikePages();
        dueReplies(x, "put a;put b;drop a;put c;near c 3;measure head;far a b", 7, "0;1;0;0;0,1;ok;7");
    }

    static void promise13_perform_textIsOneStep() {
        LikePages x = of("a");
        dueReplies(x, "put b;put c;drop a;cap 2", 4, "1;2;0;ok");
        due("steps", x.steps(), 2);
        due("undo", x.undo(), 1);
        due("things", x.is(0), 1);
        due("cap", x.is(5), 4);
    }

    // ---- 14

    static void promise14_fault_noneYet() {
        due("fault", new LikePages().fault(), NONE);
    }

    static void promise14_fault_noneAgainAfterAGoodText() {
        LikePages x = new LikePages();
        dueFault(x, "x", 0);
        type(x, "size");
        due("that of the text read latest", x.fault(), 0);
        x.perform();
        due("none", x.fault(), NONE);
    }

    static void promise14_fault_endsTooEarly() {
        LikePages x = new LikePages();
        String[] texts = {"", " ", "put", "put ", "drop", "near", "near a", "near a ", "within", "within a", "measure",
            "measure ", "cap", "cap  ", "far", "far a", "far a ", "size;", "size; ", "size;size;", "put a;near a", "   "};
        for (String text : texts) {
            dueFault(x, text, text.length());
        }
    }

    static void promise14_fault_textOfThreeHundredEndsTooEarly() {
        LikePages x = new LikePages();
        dueFault(x, repeat("size", ";", 60) + ";", 300);
        dueFault(x, repeat(" ", "", 300), 300);
        dueFault(x, repeat("size", ";", 59) + ";near", 299);
    }

    static void promise14_fault_atTheFirstByte() {
        LikePages x = new LikePages();
        for (String text : new String[] {";", ";size", "5", "a", "sizes", "siz", "SIZE", "Size", "-", ",", "edit"}) {
            dueFault(x, text, 0);
        }
    }

    static void promise14_fault_atTheLastByte() {
        LikePages x = new LikePages();
        dueFault(x, repeat("size", ";", 59) + ";size" + "x", 295);
        dueFault(x, repeat("size", ";", 60) + "!", 299);
        dueFault(x, "size;;", 5);
        dueFault(x, "size,", 4);
    }

    static void promise14_fault_wholeThingFromItsFirstByte() {
        LikePages x = new LikePages();
        dueFault(x, "put abcdefz", 4);
        dueFault(x, "put abcdefgh", 4);
        dueFault(x, "near a 1234", 7);
        dueFault(x, "  put  abi  ", 7);
        dueFault(x, "sizesize", 0);
        dueFault(x, "put a put b", 6);
        dueFault(x, "put a2", 5);
        dueFault(x, "size 2", 5);
    }

    static void promise14_fault_theFirstOfSeveral() {
        LikePages x = new LikePages();
        dueFault(x, "near 5 z", 5);
        dueFault(x, "far 5 6", 4);
        dueFault(x, "far zz 6", 4);
        dueFault(x, "near z 1000;x", 5);
        dueFault(x, "size;x;y", 5);
    }

    static void promise14_fault_otherBlanksAreNone() {
        LikePages x = new LikePages();
        for (int sign : new int[] {0, 9, 10, 13, 31, 33, 160, 255}) {
            dueFault(x, "size" + (char) sign, 4);
            dueFault(x, "" + (char) sign + "size", 0);
        }
    }

    static void promise14_fault_whatCantBeIsNoFault() {
        LikePages x = new LikePages();
        dueReplies(x, "drop a;near a 0;cap 9;within a 100", 4, "no;no;no;no");
    }

    // ---- 15

    static void promise15_reply_noneYet() {
        LikePages x = new LikePages();
        due("how many", x.reply(NONE), 0);
        due("byte 0", x.reply(0), NONE);
    }

    static void promise15_reply_noneSuch() {
        LikePages x = of("a");
        dueReplies(x, "size;cap 4", 2, "1;ok");
        due("the last", x.reply(3), 'k');
        for (int i : new int[] {LEAST, -2, 4, 5, 399, 400, GREATEST}) {
            due("byte " + i, x.reply(i), NONE);
        }
    }

    static void promise15_reply_fourHundredAtMost() {
        LikePages x = forty();
        // 10 numbers of one digit, 30 of two and 39 signs between: 109 bytes each, and 3 signs between: 439.
        type(x, repeat("near aa 40", ";", 4));
        due("perform", x.perform(), 4);
        due("how many", x.reply(NONE), 400);
        due("the sign behind the third", x.reply(329), ';');
        due("byte 399", x.reply(399) != NONE, true);
        due("byte 400", x.reply(400), NONE);
        due("byte 401", x.reply(401), NONE);
    }

    static void promise15_reply_justFourHundred() {
        LikePages x = new LikePages();
        StringBuilder text = new StringBuilder("put a");
        for (char c = 'b'; c <= 'h'; c++) {
            text.append(";put ").append(c);
        }
        type(x, text.toString());
        x.perform();
        // Eight things are 15 bytes.
        String many = repeat("near a8", ";", 25);
        type(x, many);
        due("perform", x.perform(), 25);
        due("25 times 15, and 24 between", x.reply(NONE), 399);
        type(x, many + ";size");
        due("perform", x.perform(), 26);
        due("the sign between is the last", x.reply(NONE), 400);
        due("byte 399", x.reply(399), ';');
    }

    static void promise15_reply_whatIsCutIsDoneAllTheSame() {
        LikePages x = forty();
        type(x, repeat("near aa 40", ";", 4) + ";cap 2;drop aa");
        due("perform", x.perform(), 6);
        due("cap", x.is(5), 2);
        due("things", x.is(0), 39);
    }

    static void promise15_reply_ofTheTextReadLatest() {
        LikePages x = new LikePages();
        dueReplies(x, "put a;put b", 2, "0;1");
        dueReplies(x, "size", 1, "2");
        due("byte 1", x.reply(1), NONE);
        dueFault(x, "x", 0);
        due("byte 0", x.reply(0), NONE);
    }

    // ---- 16

    static void promise16_undo_none() {
        LikePages x = new LikePages();
        due("undo", x.undo(), NONE);
        x.put(w("a"));
        due("undo", x.undo(), 0);
        String before = seen(x);
        due("undo again", x.undo(), NONE);
        dueSame("undo", x, before);
    }

    static void promise16_undo_twentyAtMost() {
        LikePages x = new LikePages();
        for (int n = 0; n < 21; n++) {
            x.put((n / 8 + 1) * 9 + n % 8 + 1);
        }
        for (int n = 19; n >= 0; n--) {
            due("undo", x.undo(), n);
        }
        due("the 21st", x.undo(), NONE);
        due("the first stays put", x.is(0), 1);
        due("word", x.word(0), w("aa"));
    }

    static void promise16_undo_justTwenty() {
        LikePages x = new LikePages();
        for (int n = 0; n < 20; n++) {
            x.put((n / 8 + 1) * 9 + n % 8 + 1);
        }
        for (int n = 19; n >= 0; n--) {
            due("undo", x.undo(), n);
        }
        due("none left", x.undo(), NONE);
        due("things", x.is(0), 0);
    }

    static void promise16_undo_latestFirst() {
        LikePages x = of("a");
        x.cap(2);
        x.measure(1);
        x.undo();
        due("measure", x.is(4), 0);
        due("cap", x.is(5), 2);
        x.undo();
        due("cap", x.is(5), 4);
        due("things", x.is(0), 1);
    }

    static void promise16_undo_isNoStepItself() {
        LikePages x = of("a b");
        due("undo", x.undo(), 1);
        due("undo", x.undo(), 0);
        due("undo", x.undo(), NONE);
        due("things", x.is(0), 0);
        x.put(w("c"));
        due("undo of the new one", x.undo(), 0);
    }

    static void promise16_undo_refusedCallsAreNoSteps() {
        LikePages x = of("a b");
        x.put(w("a"));
        x.put(0);
        x.drop(2);
        x.measure(4);
        x.cap(1);
        x.tell(0, 0, 1);
        x.spell(0, w("b"));
        x.perform();
        x.feed(0, 0, 0, 0, 0);
        x.end(0);
        x.near(w("a"), 1, 0);
        x.image();
        due("undo", x.undo(), 1);
        due("things", x.is(0), 1);
    }

    /** Takes the latest step back, and sees that all is as it was ahead of it. */
    private static void dueUndone(String step, LikePages x, String before, int entries) {
        due(step + " is a step", x.undo(), x.steps());
        due(step + " is taken back", seen(x).equals(before), true);
        due(step + ": entries", x.is(7), entries);
    }

    static void promise16_undo_eachKindOfStep() {
        for (int kind = 0; kind < 11; kind++) {
            LikePages x = deep();
            x.tell(0, 2, 7);
            x.drop(3);
            String before = seen(x);
            int entries = x.is(7);
            int steps = x.steps();
            step(x, kind);
            due("steps with kind " + kind, x.steps(), steps + 1);
            dueUndone("kind " + kind, x, before, entries);
            due("told yet", x.far(0, 2), 7);
            due("the other way", x.far(2, 0), 7);
        }
    }

    private static void step(LikePages x, int kind) {
        switch (kind) {
            case 0: x.put(w("hhhh")); break;
            case 1: x.drop(0); break;
            case 2: x.measure(0); break;
            case 3: x.cap(6); break;
            case 4: x.tell(1, 0, 44); break;
            case 5: x.wipe(); break;
            case 6: x.build(); break;
            case 7: x.spell(2, w("b")); break;
            case 8: x.tight(); break;
            case 9: type(x, "drop a;measure head;put bbb"); x.perform(); break;
            default: type(x, "size"); x.perform(); break;
        }
    }

    static void promise16_undo_centresAndWaysToo() {
        LikePages x = deep();
        x.cap(6);
        x.undo();
        int[] centres = {-1, 1, 0, 1, 2, 2};
        for (int i = 0; i < 6; i++) {
            due("centre of " + i, x.page(i, 2), centres[i]);
        }
        due("way", x.entry(1, 0, 2), 2);
        due("way", x.entry(3, 1, 2), 1);
    }

    static void promise16_undo_toldOnesEachInItsPlace() {
        LikePages x = of("a b c d");
        x.tell(0, 1, 11);
        x.tell(2, 3, 22);
        x.tell(3, 1, 33);
        x.drop(0);
        due("told", x.is(6), 2);
        x.undo();
        due("told", x.is(6), 3);
        due("0 to 1", x.far(0, 1), 11);
        due("2 to 3", x.far(2, 3), 22);
        due("3 to 1", x.far(3, 1), 33);
        due("3 to 2", x.far(3, 2), 1);
        x.wipe();
        x.tell(1, 0, 44);
        x.undo();
        x.undo();
        due("0 to 1", x.far(0, 1), 11);
        due("1 to 0", x.far(1, 0), 1);
        due("in its place", x.tell(0, 1, 12), 3);
    }

    static void promise16_undo_firstAndLastOfForty() {
        LikePages x = forty();
        x.spell(0, w("g"));
        x.spell(39, w("h"));
        x.undo();
        due("the last", x.word(39), w("eh"));
        due("its far", x.far(39, 31), 1);
        x.undo();
        due("the first", x.word(0), w("aa"));
        due("its far", x.far(0, 39), 2);
        x.undo();
        due("the last is not put", x.word(39), NONE);
        due("things", x.is(0), 39);
    }

    static void promise16_undo_leavesTheImage() {
        LikePages x = of("a b");
        x.image();
        x.put(w("c"));
        x.undo();
        x.undo();
        due("things", x.is(0), 1);
        due("back", x.back(), 2);
        x = of("a");
        x.put(w("b"));
        x.image();
        due("undo", x.undo(), 1);
        due("the image has two yet", x.back(), 2);
    }

    static void promise16_undo_leavesSheetRepliesFaultAndCost() {
        LikePages x = of("a b");
        dueReplies(x, "size;near a 2", 2, "2;0,1");
        x.end(0);
        type(x, "size;size");
        due("undo", x.undo(), 2);
        due("the sheet", x.end(9), 9);
        due("no more", x.end(10), NONE);
        due("replies", replies(x).equals("2;0,1"), true);
        dueCost(x, 2, 0, 1, 2);
        dueFault(x, "x y", 0);
        dueFault(x, "size y", 5);
        x.undo();
        due("the fault", x.fault(), 5);
        x.undo();
        due("things", x.is(0), 0);
        dueCost(x, 2, 0, 1, 2);
    }
}
