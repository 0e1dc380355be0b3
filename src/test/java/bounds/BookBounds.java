/** What is heard, written, drawn and kept (section 3 of the Terms) and promises 29 to 36, with drift()'s draws. */
final class BookBounds {
    private static final int NONE = BellSuitors.NONE, UNKNOWN = BellSuitors.UNKNOWN, OUTSIDE = BellSuitors.OUTSIDE,
        NOT = BellSuitors.NOT, FULL = BellSuitors.FULL;
    private static final int MIN = Integer.MIN_VALUE, MAX = Integer.MAX_VALUE;
    private static final String BOB = "b3,5,8,12;m0,9,0,9,0,9,0,3;r4;r6;r7;c12;";
    private static final int[] BOB_METHOD = {0, 9, 0, 9, 0, 9, 0, 3};
    private static final String NO_SUITORS = "b1,1,1;m1,4;c7;";
    /** Seeds by which the next DRAW of 8 is 0, 1, .. 7. */
    private static final int[] SEED_FOR = {0, 4, 8, 3, 2, 11, 1, 5};
    private final Held held;

    BookBounds(Held held) {
        this.held = held;
    }

    void test() {
        heardAtMost();
        heardByTheMethodAlone();
        oneBellLate();
        late();
        listen();
        listenRefused();
        hearRefused();
        bookAtMost();
        writeRefused();
        wrongNow();
        tear();
        seed();
        seedComesRound();
        drawIsCut();
        onNoughtCalled();
        onOneWet();
        onTwoRopes();
        onTwoAlike();
        onTwoWithoutSuitors();
        onOthersNothing();
        drawAheadOfEach();
        images();
        keep();
        goBack();
    }

    private static String bobRow(int n) {
        String row = ByHand.rounds(4);
        for (int i = 0; i < n; i++) {
            row = ByHand.changed(row, BOB_METHOD[i % 8]);
        }
        return row;
    }

    private void heardAtMost() {
        held.terms(29, "HEARD (6 at most):");
        held.promise(29, "HEARD: how much.");
        BellSuitors x = Fed.with(BOB);
        held.is("at first", x.told(11), 0);
        for (int n = 1; n <= 6; n++) {
            held.is("hear(0, 2134)", x.hear(0, 2134), n);
            held.is("told(11)", x.told(11), n);
        }
        held.promise(29, "FULL (6).");
        held.is("the seventh", x.hear(0, 2134), FULL);
        held.is("one that does not fit", x.hear(0, 1234), FULL);
        held.is("told(11)", x.told(11), 6);
        held.is("told(12)", x.told(12), 1);
        x.tear();
        held.is("torn, from one on", x.hear(0, 2134), 1);
    }

    private void heardByTheMethodAlone() {
        held.terms(29, "the ROW behind n ROWS (0 .. 500, from ROUNDS on by THE METHOD alone) was heard as another one, told by figures:");
        for (int n : new int[] {0, 1, 7, 8, 9, 499, 500}) {
            for (int b = 0; b < 4; b++) {
                BellSuitors x = Fed.with(BOB);
                x.ring(5);
                x.call();
                held.is("hear(" + n + ", ..)", x.hear(n, ByHand.asNumber(ByHand.heardWith(bobRow(n), b))), 1);
                held.is("LATE, BELL " + b + " behind " + n, x.told(12), 1 << b);
            }
        }
    }

    private void oneBellLate() {
        held.terms(29, "one unknown BELL, the same each time, is late: it strikes one PLACE later than it should "
            + "(in the last PLACE it is heard as it is).");
        int[] heard = {213456, 132456, 124356, 123546, 123465, 123456};
        for (int b = 0; b < 6; b++) {
            BellSuitors x = Fed.with(ByHand.bells(6) + "m0,33;");
            x.hear(0, heard[b]);
            held.is("told(12)", x.told(12), 1 << b);
        }
        for (int row : new int[] {123654, 321456, 231456, 213465, 654321}) {
            BellSuitors x = Fed.with(ByHand.bells(6) + "m0,33;");
            x.hear(0, row);
            held.is("no BELL alone, " + row, x.told(12), 0);
        }
        BellSuitors same = Fed.with(BOB);
        same.hear(0, 2134);
        same.hear(1, ByHand.asNumber(ByHand.heardWith(bobRow(1), 0)));
        same.hear(2, ByHand.asNumber(ByHand.heardWith(bobRow(2), 0)));
        held.is("the same each time", same.told(12), 1);
        same.hear(3, ByHand.asNumber(ByHand.heardWith(bobRow(3), 1)));
        held.is("another one time", same.told(12), 0);
    }

    private void late() {
        held.terms(29, "LATE: BELLS (a SET) by which all that is HEARD is so.");
        for (int n = 3; n <= 6; n++) {
            BellSuitors x = Fed.with(ByHand.bells(n));
            held.is("nothing HEARD: all", x.told(12), (1 << n) - 1);
            x.hear(0, ByHand.asNumber(ByHand.rounds(n)));
            held.is("as it is: the last", x.told(12), 1 << n - 1);
        }
        held.is("no TOWER: none", new BellSuitors().told(12), 0);
    }

    private void listen() {
        held.terms(30, "LISTEN: n, 0 to 99, by what is heard these are told apart best: the greatest part that is alike is least; of like ones the least; "
            + "NONE: none parts them.");
        held.promise(30, "LISTEN; NONE.");
        // A late BELL not in the last PLACE changes with the one behind it: each BELL makes another ROW, so any n is as good as 0.
        for (int n = 3; n <= 6; n++) {
            BellSuitors x = Fed.with(ByHand.bells(n) + "m" + ((1 << n) - 4) + ";");
            held.is("all may be late", x.listen(), 0);
            x.ring(7);
            held.is("from ROUNDS on, not from now", x.listen(), 0);
            x.hear(0, ByHand.asNumber(ByHand.rounds(n)));
            held.is("one alone may be", x.listen(), NONE);
            x.hear(1, ByHand.asNumber(ByHand.rounds(n)));
            x.hear(0, 213456 / (int) Math.pow(10, 6 - n));
            held.is("none may be", x.told(12), 0);
            held.is("none may be", x.listen(), NONE);
            x.tear();
            held.is("torn, all again", x.listen(), 0);
        }
    }

    private void listenRefused() {
        held.promise(30, "NOT: no TOWER.");
        held.is("listen()", new BellSuitors().listen(), NOT);
        BellSuitors x = Fed.with(BOB);
        x.tower();
        held.is("of a TOWER that is gone", x.listen(), NOT);
    }

    private void hearRefused() {
        held.promise(29, "OUTSIDE (n, no ROW; without a TOWER there is none),");
        BellSuitors x = Fed.with(BOB);
        for (int n : new int[] {-1, 501, MIN, MAX}) {
            held.is("hear(" + n + ", 1234)", x.hear(n, 1234), OUTSIDE);
        }
        for (int row : new int[] {0, 123, 12345, 1233, 1235, 1230, 234, -1234, NONE, MIN, MAX}) {
            held.is("hear(0, " + row + ")", x.hear(0, row), OUTSIDE);
        }
        held.is("told(11)", x.told(11), 0);
        held.is("told(12)", x.told(12), 15);
        held.is("the least n and ROW", x.hear(0, 1234), 1);
        held.is("the greatest n and ROW", x.hear(500, 4321), 2);
        for (int row : new int[] {0, 1, 12, 123, 1234}) {
            held.is("no TOWER", new BellSuitors().hear(0, row), OUTSIDE);
        }
    }

    private void bookAtMost() {
        held.terms(31, "THE BOOK (15 at most)");
        held.promise(31, "An entry behind THE BOOK: how many.");
        BellSuitors x = Fed.with(BOB);
        held.is("at first", x.told(13), 0);
        for (int n = 1; n <= 15; n++) {
            held.is("write()", x.write(n % 4, n % 4), n);
            held.is("told(13)", x.told(13), n);
        }
        held.promise(31, "FULL (15).");
        held.is("the sixteenth", x.write(0, 1), FULL);
        held.is("told(13)", x.told(13), 15);
        held.is("it was not written", x.judge(), NONE);
        x.tear();
        held.is("torn, from one on", x.write(0, 1), 1);
        held.is("the first entry", x.judge(), 0);
    }

    private void writeRefused() {
        held.promise(31, "UNKNOWN,");
        BellSuitors x = Fed.with(BOB);
        for (int wrong : new int[] {-1, 4, 6, MIN, MAX}) {
            held.is("write(" + wrong + ", 0)", x.write(wrong, 0), UNKNOWN);
            held.is("write(0, " + wrong + ")", x.write(0, wrong), UNKNOWN);
        }
        held.is("told(13)", x.told(13), 0);
        held.is("a BELL and a PLACE of one number are not one twice", x.write(3, 3), 1);
        held.is("no TOWER", new BellSuitors().write(0, 0), UNKNOWN);
    }

    private void wrongNow() {
        held.terms(33, "tells in which PLACE BELLS are: WRONG: the first that is otherwise now; NONE.");
        held.promise(33, "WRONG; NONE.");
        held.is("no TOWER", new BellSuitors().judge(), NONE);
        BellSuitors x = Fed.with(BOB);
        held.is("an empty BOOK", x.judge(), NONE);
        for (int n = 0; n < 14; n++) {
            x.write(n % 4, n % 4);
        }
        held.is("all are so", x.judge(), NONE);
        x.write(3, 2);
        held.is("the last of fifteen", x.judge(), 14);
        x.ring(1);
        held.is("the first of several", x.judge(), 0);
        x.ring(7);
        held.is("BELL 0 is at home, BELL 1 is not", x.judge(), 1);
        x.stand();
        held.is("as it is now", x.judge(), 14);
        BellSuitors y = Fed.with(BOB);
        y.write(0, 0);
        y.write(0, 1);
        held.is("entries that gainsay each other", y.judge(), 1);
        y.ring(1);
        held.is("entries that gainsay each other", y.judge(), 0);
    }

    private void tear() {
        held.promise(32, "Nothing HEARD, THE BOOK is empty: how much both had.");
        held.is("no TOWER", new BellSuitors().tear(), 0);
        BellSuitors x = Fed.with(BOB);
        held.is("nothing", x.tear(), 0);
        for (int i = 0; i < 6; i++) {
            x.hear(0, 2134);
        }
        held.is("HEARD alone", x.tear(), 6);
        for (int i = 0; i < 15; i++) {
            x.write(0, 1);
        }
        held.is("THE BOOK alone", x.tear(), 15);
        for (int i = 0; i < 15; i++) {
            x.write(0, 1);
            x.hear(0, 2134);
        }
        held.is("both, full", x.tear(), 21);
        held.same("then", new int[] {x.told(11), x.told(12), x.told(13), x.judge(), x.tear()}, 0, 15, 0, NONE, 0);
    }

    private void seed() {
        held.promise(34, "THE SEED becomes v (0 .. 2147483647): what it was.");
        BellSuitors x = new BellSuitors();
        held.is("0 at first", x.seed(MAX), 0);
        held.is("the greatest", x.seed(1), MAX);
        held.is("seed(0)", x.seed(0), 1);
        held.is("the least", x.seed(0), 0);
        held.promise(34, "OUTSIDE.");
        x.seed(6);
        for (int v : new int[] {-1, MIN}) {
            held.is("seed(" + v + ")", x.seed(v), OUTSIDE);
        }
        held.is("as it was", x.seed(0), 6);
    }

    private static int seedBehindOne(int v) {
        BellSuitors x = Fed.with(NO_SUITORS);
        x.seed(v);
        x.drift(1);
        return x.seed(0);
    }

    private void seedComesRound() {
        held.terms(15, "BY DRAWS: THE SEED (0 at first: each DRAW it becomes it times 1103515245 and 12345, left over by 2 to the 31;");
        BellSuitors x = Fed.with(NO_SUITORS);
        x.drift(1);
        held.is("from 0 at first", x.seed(0), 12345);
        held.is("from 1", seedBehindOne(1), 1103527590);
        held.is("left over from 2", seedBehindOne(2), 59559187);
        held.is("to 0 again", seedBehindOne(2088216195), 0);
        held.is("to the greatest", seedBehindOne(230538014), MAX);
        held.is("from the greatest", seedBehindOne(MAX), 1043980748);
    }

    private void drawIsCut() {
        held.terms(15, "the DRAW of n is it / 65536, left over by n):");
        BellSuitors x = Fed.with(NO_SUITORS);
        x.seed(2032319262);
        held.is("65535 / 65536 is 0: CALLED", x.drift(1), 123);
        held.is("the seed", x.seed(1742513795), 65535);
        x.drift(1);
        held.is("65536 / 65536 is 1: WET", x.told(9), 1);
        held.is("the seed", x.seed(0), 65536);
    }

    private void onNoughtCalled() {
        held.terms(15, "n ROWS: ahead of each a DRAW of 8: on 0 it is CALLED,");
        BellSuitors x = Fed.with(NO_SUITORS);
        x.seed(SEED_FOR[0]);
        held.is("by THE CALL", x.drift(1), 123);
        held.is("told(8)", x.told(8), 0);
        held.is("told(10)", x.told(10), 1);
        held.is("no more than that: not WET", x.told(9), 0);
        held.is("one DRAW", x.seed(0), ByHand.nextSeed(SEED_FOR[0]));
        x.call();
        x.seed(SEED_FOR[0]);
        held.is("CALLED already: by THE CALL, once", x.drift(1), 123);
        held.is("told(8)", x.told(8), 0);
        held.is("one each can be undone", x.told(14), 3);
        x.call();
        x.seed(SEED_FOR[7]);
        held.is("CALLED ahead, another DRAW", x.drift(1), 123);
    }

    private void onOneWet() {
        held.terms(15, "on 1 WET is, if it was not, else not,");
        BellSuitors x = Fed.with("b1,1,1,1;r1;r1;");
        x.seed(SEED_FOR[1]);
        x.drift(1);
        held.is("it was not", x.told(9), 1);
        held.is("ahead of the ROW", x.suitor(0, 2), 1);
        held.is("no more than that: one DRAW", x.seed(SEED_FOR[1]), ByHand.nextSeed(SEED_FOR[1]));
        x.drift(1);
        held.is("it was", x.told(9), 0);
        held.is("ahead of the ROW", x.suitor(0, 2), 1);
    }

    /** A seed by which DRAWS of 8, of n, of n are 2, r, q. */
    private static int seedForRopes(int n, int r, int q) {
        for (int v = 0; v < 1000000; v++) {
            long first = ByHand.nextSeed(v);
            long second = ByHand.nextSeed(first);
            long third = ByHand.nextSeed(second);
            if (ByHand.drawOf(first, 8) == 2 && ByHand.drawOf(second, n) == r && ByHand.drawOf(third, n) == q) {
                return v;
            }
        }
        return NONE;
    }

    private void onTwoRopes() {
        held.terms(15, "on 2 a DRAW of SUITORS, of SUITORS: these change ropes,");
        for (int n = 2; n <= 6; n++) {
            for (int r = 0; r < n; r++) {
                int q = (r + 1) % n;
                BellSuitors x = Fed.with("b1,1,1,1,1,9;m63,63;" + "r1;".repeat(n));
                x.seed(seedForRopes(n, r, q));
                x.drift(1);
                for (int s = 0; s < n; s++) {
                    held.is(n + " SUITORS, suitor(" + s + ", 1)", x.suitor(s, 1), s == r ? q : s == q ? r : s);
                }
                held.is("ahead of the ROW: TIRED by BELL 5", x.suitor(n - 1, 2), n == 6 && r < 4 ? 8 : 0);
                held.is("no more than that: not WET", x.told(9), 0);
            }
        }
    }

    private void onTwoAlike() {
        held.terms(15, "if they are unlike");
        for (int n = 1; n <= 6; n++) {
            BellSuitors x = Fed.with("b1,1,1,1,1,1;" + "r1;".repeat(n));
            int v = seedForRopes(n, n - 1, n - 1);
            x.seed(v);
            x.drift(1);
            for (int s = 0; s < n; s++) {
                held.is(n + " SUITORS, suitor(" + s + ", 1)", x.suitor(s, 1), s);
            }
            long drawn = ByHand.nextSeed(ByHand.nextSeed(ByHand.nextSeed(v)));
            held.is("three DRAWS, of one SUITOR too", x.seed(0), drawn);
        }
    }

    private void onTwoWithoutSuitors() {
        held.terms(15, "(without SUITORS no DRAWS).");
        BellSuitors x = Fed.with(NO_SUITORS);
        x.seed(SEED_FOR[2]);
        held.is("the ROW is RUNG", x.drift(1), 132);
        held.is("the DRAW of 8 alone", x.seed(0), ByHand.nextSeed(SEED_FOR[2]));
    }

    private void onOthersNothing() {
        held.terms(15, "n ROWS: ahead of each a DRAW of 8:");
        for (int d = 0; d < 8; d++) {
            held.is("the seed for " + d, ByHand.drawOf(ByHand.nextSeed(SEED_FOR[d]), 8), d);
        }
        for (int d = 3; d < 8; d++) {
            BellSuitors x = Fed.with("b1,1,1;m1,4;r1;r1;c7;");
            x.seed(SEED_FOR[d]);
            held.is("on " + d + ", drift(1)", x.drift(1), 132);
            held.same("on " + d, new int[] {x.told(8), x.told(9), x.suitor(0, 1), x.suitor(1, 1)}, 0, 0, 0, 1);
            held.is("one DRAW", x.seed(0), ByHand.nextSeed(SEED_FOR[d]));
        }
    }

    private void drawAheadOfEach() {
        held.promise(15, "n ROWS (1 .. 60) BY DRAWS:");
        BellSuitors x = Fed.with(NO_SUITORS);
        BellSuitors y = Fed.with(NO_SUITORS);
        x.drift(60);
        long v = 0;
        for (int i = 0; i < 60; i++) {
            v = ByHand.nextSeed(v);
            y.drift(1);
        }
        held.is("sixty DRAWS", x.seed(0), v);
        held.is("as sixty times one", x.told(5), y.told(5));
        held.is("as sixty times one", x.told(9), y.told(9));
        held.is("one to undo", x.told(14), 1);
    }

    private static BellSuitors busy() {
        BellSuitors x = Fed.with(BOB);
        x.wet(true);
        x.ring(9);
        x.swap(0, 2);
        x.call();
        x.seed(99);
        return x;
    }

    private void images() {
        held.terms(35, "IMAGES 0, 1 keep all of section 2, THE SEED.");
        BellSuitors x = busy();
        int[] first = Probe.evening(x);
        x.keep(0);
        x.stand();
        x.wet(false);
        x.drift(30);
        x.forgive(1);
        x.seed(100);
        int[] second = Probe.evening(x);
        x.keep(1);
        x.drift(7);
        x.hear(0, 2134);
        x.write(0, 0);
        x.feed('b');
        x.goBack(0);
        held.same("IMAGE 0", Probe.evening(x), first);
        held.is("its SEED", x.seed(3), 99);
        held.same("no more than that", new int[] {x.told(3), x.told(11), x.told(13)}, 1, 1, 1);
        x.goBack(1);
        held.same("IMAGE 1", Probe.evening(x), second);
        held.is("its SEED", x.seed(3), 100);
        x.ring(50);
        x.goBack(0);
        held.same("IMAGE 0 again: ringing on leaves it", Probe.evening(x), first);
        x.ring(1);
        int[] third = Probe.evening(x);
        x.keep(0);
        x.ring(1);
        x.goBack(0);
        held.same("kept anew", Probe.evening(x), third);
    }

    private void keep() {
        held.promise(35, "IMAGE i becomes what is so (nothing can be undone then): 1.");
        BellSuitors x = busy();
        held.is("told(14)", x.told(14), 4);
        held.is("keep(0)", x.keep(0), 1);
        held.is("told(14)", x.told(14), 0);
        held.is("undo()", x.undo(), NOT);
        x.ring(1);
        held.is("keep(1)", x.keep(1), 1);
        held.is("undo()", x.undo(), NOT);
        held.is("of no TOWER too", new BellSuitors().keep(0), 1);
        held.promise(35, "UNKNOWN.");
        x.ring(1);
        for (int i : new int[] {-1, 2, 32, MIN, MAX}) {
            held.is("keep(" + i + ")", x.keep(i), UNKNOWN);
        }
        held.is("it can be undone yet", x.undo(), 0);
    }

    private void goBack() {
        held.promise(36, "What is so becomes IMAGE i (nothing can be undone then): 1.");
        BellSuitors x = busy();
        x.keep(1);
        x.ring(1);
        x.wet(false);
        held.is("goBack(1)", x.goBack(1), 1);
        held.is("told(14)", x.told(14), 0);
        held.is("undo()", x.undo(), NOT);
        held.is("again", x.goBack(1), 1);
        held.promise(36, "UNKNOWN,");
        x.ring(1);
        for (int i : new int[] {-1, 2, 32, 33, MIN, MAX}) {
            held.is("goBack(" + i + ")", x.goBack(i), UNKNOWN);
        }
        held.promise(36, "NOT: it was not kept.");
        held.is("goBack(0)", x.goBack(0), NOT);
        held.is("it can be undone yet", x.undo(), 0);
        held.is("no TOWER", new BellSuitors().goBack(1), NOT);
        Fed.tell(x, BOB);
        held.is("a new TOWER", x.goBack(1), NOT);
    }
}
