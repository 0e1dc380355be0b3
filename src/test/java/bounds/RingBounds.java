import java.util.Arrays;

/** Section 2 of the Terms, what is undone, and promises 5 and 7 to 16: ringing, calls, ropes, tiredness, who is out. */
final class RingBounds {
    private static final int NONE = BellSuitors.NONE, UNKNOWN = BellSuitors.UNKNOWN, OUTSIDE = BellSuitors.OUTSIDE,
        NOT = BellSuitors.NOT, FULL = BellSuitors.FULL;
    private static final int MIN = Integer.MIN_VALUE, MAX = Integer.MAX_VALUE;
    /** Each LEAD is one ROW: 132, 123, 132 .. */
    private static final String SHORT = "b1,1,1;m1;r1;r1;r1;c7;";
    private static final int[] TWELVE = {0, 33, 12, 3, 48, 15, 9, 36, 51, 63, 60, 39};
    private final Held held;

    RingBounds(Held held) {
        this.held = held;
    }

    void test() {
        figures();
        roundsAtFirst();
        runsOfPairs();
        methodComesRound();
        standCountsAnew();
        calledOnce();
        nobodysBell();
        strengthAgainstWeight();
        tiredAtMost();
        wetTires();
        outTiresNoMore();
        leadOfOne();
        leadOfTwelve();
        callEndsTheLead();
        twoOrMoreNotOut();
        wedAlone();
        stood();
        wetOrNot();
        forgiven();
        rowsFromZero();
        told();
        bell();
        suitor();
        ring();
        ringIsFull();
        call();
        swap();
        stand();
        wet();
        forgive();
        drift();
        driftIsFull();
        undo();
        sixteenKept();
        whatIsUndone();
        seedStays();
    }

    private static String text(int[] method, String rest) {
        StringBuilder s = new StringBuilder(ByHand.bells(6)).append('m');
        for (int i = 0; i < method.length; i++) {
            s.append(i == 0 ? "" : ",").append(method[i]);
        }
        return s.append(';').append(rest).toString();
    }

    private void figures() {
        held.terms(5, "A ROW has each BELL in a PLACE; it is told by figures, each 1 more than the BELL, PLACE by PLACE.");
        BellSuitors x = Fed.with(ByHand.bells(6) + "m0,33,0,33,0,33;");
        int[] due = {123456, 214365, 241635, 426153, 462513, 645231, 654321};
        for (int n = 0; n < due.length; n++) {
            held.is("rowAt(" + n + ")", x.rowAt(n), due[n]);
        }
        held.is("the least BELL in the last PLACE", x.placeAt(0, 6), 5);
        held.is("the greatest BELL in the first", x.placeAt(5, 6), 0);
    }

    private void roundsAtFirst() {
        held.terms(5, "ROUNDS (BELL k in PLACE k) is the ROW at first.");
        for (int n = 3; n <= 6; n++) {
            BellSuitors x = Fed.with(ByHand.bells(n) + "m" + ((1 << n) - 4) + ";");
            held.is("told(5)", x.told(5), ByHand.asNumber(ByHand.rounds(n)));
            for (int b = 0; b < n; b++) {
                held.is("bell(" + b + ", 1)", x.bell(b, 1), b);
            }
        }
    }

    private void runsOfPairs() {
        held.terms(9, "A CHANGE makes the next ROW: BELLS in PLACES that stay stay; in each run of the others the first changes with the second, "
            + "the third with the fourth, and so on.");
        for (int n = 3; n <= 6; n++) {
            for (int set = 0; set < 1 << n; set++) {
                if (ByHand.isChange(set, n)) {
                    BellSuitors x = Fed.with(ByHand.bells(n) + "m" + set + ";");
                    int due = ByHand.asNumber(ByHand.changed(ByHand.rounds(n), set));
                    held.is(n + " BELLS, " + set + ", ring(1)", x.ring(1), due);
                    held.is(n + " BELLS, " + set + ", and back", x.ring(1), ByHand.asNumber(ByHand.rounds(n)));
                }
            }
        }
        held.is("a run of six", Fed.with(ByHand.bells(6) + "m0;").ring(1), 214365);
        held.is("two runs of two", Fed.with(ByHand.bells(6) + "m12;").ring(1), 213465);
        held.is("a run of four", Fed.with(ByHand.bells(6) + "m33;").ring(1), 132546);
    }

    private void methodComesRound() {
        held.terms(9, "RUNG: the next CHANGE of THE METHOD");
        for (int changes = 1; changes <= 12; changes++) {
            int[] method = Arrays.copyOf(TWELVE, changes);
            BellSuitors x = Fed.with(text(method, ""));
            String row = ByHand.rounds(6);
            for (int n = 0; n < 3 * changes + 1; n++) {
                row = ByHand.changed(row, method[n % changes]);
                held.is(changes + " CHANGES, ROW " + n, x.ring(1), ByHand.asNumber(row));
                held.is(changes + " CHANGES, told(10)", x.told(10), (n + 1) % changes);
            }
        }
        BellSuitors x = Fed.with("b1,1,1;m1,1,4;");
        held.is("ROUNDS come within the LEAD", x.ring(2), 123);
        held.is("the third CHANGE follows", x.ring(1), 213);
        held.is("then the first", x.ring(1), 231);
    }

    private void standCountsAnew() {
        held.terms(12, "(by how many were RUNG since the latest ROUNDS by stand(), left over by how many CHANGES there are) makes the next ROW;");
        for (int n = 1; n <= 13; n++) {
            BellSuitors x = Fed.with(text(TWELVE, ""));
            x.ring(n);
            held.is("told(10)", x.told(10), n % 12);
            x.stand();
            held.is("behind " + n, x.told(10), 0);
            held.is("behind " + n, x.ring(1), 214365);
            held.is("behind " + n, x.ring(1), 241635);
        }
    }

    private void calledOnce() {
        held.terms(10, "CALLED, THE CALL does in its place, once.");
        BellSuitors x = Fed.with(ByHand.bells(4) + "m0,9,3;c12;");
        x.call();
        held.is("THE CALL for the first CHANGE", x.ring(1), 2134);
        held.is("told(10)", x.told(10), 1);
        held.is("told(8)", x.told(8), 0);
        held.is("the second CHANGE follows", x.ring(1), 2314);
        x.call();
        held.is("THE CALL for the last", x.ring(1), 3214);
        held.is("told(10) comes round", x.told(10), 0);
        held.is("the first CHANGE follows", x.ring(1), 2341);
        held.terms(10, "CALLED: the next CHANGE will be THE CALL.");
        x.call();
        held.is("told(8)", x.told(8), 1);
        held.is("of two ROWS the first alone", x.ring(2), 3214);
    }

    private void nobodysBell() {
        held.terms(7, "SUITOR k rings BELL k at first (a BELL beyond them nobody).");
        for (int suitors = 0; suitors <= 4; suitors++) {
            BellSuitors x = Fed.with(ByHand.bells(4) + "r1;".repeat(suitors));
            for (int b = 0; b < 4; b++) {
                held.is(suitors + " SUITORS, bell(" + b + ", 2)", x.bell(b, 2), b < suitors ? b : NONE);
                held.is(suitors + " SUITORS, suitor(" + b + ", 1)", x.suitor(b, 1), b < suitors ? b : UNKNOWN);
            }
        }
    }

    private void strengthAgainstWeight() {
        held.terms(8, "Each SUITOR who is not OUT is as much more TIRED, as his BELL's WEIGHT is above his strength (0, if it is not;");
        BellSuitors x = Fed.with("b5,5,5,20,1,9;r4;r5;r6;r1;r20;");
        int[] due = {1, 0, 0, 19, 0};
        for (int rows = 1; rows <= 3; rows++) {
            x.ring(1);
            for (int r = 0; r < due.length; r++) {
                held.is(rows + " ROWS, suitor(" + r + ", 2)", x.suitor(r, 2), rows * due[r]);
            }
        }
        x.swap(1, 3);
        x.ring(1);
        held.is("by the other's BELL", x.suitor(1, 2), 15);
        held.is("by the other's BELL", x.suitor(3, 2), 57 + 4);
    }

    private void tiredAtMost() {
        held.terms(8, "9999 at most),");
        BellSuitors x = Fed.with("b12,20,1;r1;r1;");
        for (int i = 0; i < 4; i++) {
            x.ring(200);
        }
        x.ring(108);
        held.is("908 times 11", x.suitor(0, 2), 9988);
        held.is("908 times 19", x.suitor(1, 2), 9999);
        x.ring(1);
        held.is("909 times 11", x.suitor(0, 2), 9999);
        x.ring(1);
        held.is("910 times 11", x.suitor(0, 2), 9999);
        x.wet(true);
        x.ring(200);
        held.is("in the WET too", x.suitor(0, 2), 9999);
        held.is("in the WET too", x.suitor(1, 2), 9999);
        BellSuitors y = Fed.with("b20,1,1;r1;");
        y.ring(200);
        y.ring(200);
        y.ring(126);
        held.is("526 times 19", y.suitor(0, 2), 9994);
        y.ring(1);
        held.is("cut at 9999", y.suitor(0, 2), 9999);
        y.stand();
        y.ring(1);
        held.is("from 0 on again", y.suitor(0, 2), 19);
    }

    private void wetTires() {
        held.terms(13, "and 1 more in the WET.");
        BellSuitors x = Fed.with("b5,5,5,1;r4;r5;r6;");
        x.wet(true);
        x.ring(3);
        int[] due = {6, 3, 3};
        for (int r = 0; r < due.length; r++) {
            held.is("suitor(" + r + ", 2)", x.suitor(r, 2), due[r]);
        }
        x.wet(false);
        x.ring(1);
        held.is("no more", x.suitor(1, 2), 3);
        BellSuitors y = Fed.with("b12,1,1;r1;");
        y.wet(true);
        for (int i = 0; i < 4; i++) {
            y.ring(200);
        }
        y.ring(33);
        held.is("833 times 12", y.suitor(0, 2), 9996);
        y.ring(1);
        held.is("cut, the WET too", y.suitor(0, 2), 9999);
    }

    private void outTiresNoMore() {
        held.terms(9, "Each SUITOR who is not OUT is as much more TIRED,");
        BellSuitors x = Fed.with("b9,9,9;m7;r4;r4;r4;");
        x.ring(1);
        held.is("the ROW that sends him out tires him", x.suitor(2, 2), 5);
        held.is("he is OUT", x.suitor(2, 3), 1);
        x.wet(true);
        x.ring(1);
        held.is("then no more", x.suitor(2, 2), 5);
        held.is("the others", x.suitor(0, 2), 11);
        x.forgive(2);
        x.ring(1);
        held.is("forgiven, again", x.suitor(2, 2), 11);
    }

    private void leadOfOne() {
        held.terms(9, "A LEAD ends behind the last CHANGE of THE METHOD");
        BellSuitors x = Fed.with(SHORT);
        held.is("ring(1)", x.ring(1), 132);
        held.is("each ROW ends a LEAD", x.told(6), 2);
        held.is("told(10)", x.told(10), 0);
    }

    private void leadOfTwelve() {
        held.terms(9, "then the SUITOR whose BELL is in the last PLACE is OUT,");
        BellSuitors x = Fed.with(text(TWELVE, "r1;".repeat(6)));
        String row = ByHand.rounds(6);
        for (int set : TWELVE) {
            row = ByHand.changed(row, set);
        }
        x.ring(11);
        held.is("eleven: nobody", x.told(6), 0);
        held.is("told(10)", x.told(10), 11);
        held.is("the twelfth", x.ring(1), ByHand.asNumber(row));
        held.is("told(6)", x.told(6), 1 << row.charAt(5) - '1');
        held.is("told(10)", x.told(10), 0);
        BellSuitors y = Fed.with("b1,1,1;m7;r1;r1;");
        y.ring(200);
        held.is("a BELL that nobody rings", y.told(6), 0);
        BellSuitors z = Fed.with("b1,1,1;m7;r1;r1;r1;");
        z.swap(0, 2);
        z.ring(1);
        held.is("by the rope he has", z.told(6), 1);
        z.ring(5);
        held.is("he is OUT already: nobody", z.told(6), 1);
    }

    private void callEndsTheLead() {
        held.terms(10, "(or THE CALL in its place):");
        BellSuitors x = Fed.with("b1,1,1;m1,4;r1;r1;r1;c7;");
        x.call();
        held.is("THE CALL first", x.ring(1), 123);
        held.is("no LEAD ends", x.told(6), 0);
        held.is("told(10)", x.told(10), 1);
        x.call();
        held.is("THE CALL in place of the last", x.ring(1), 123);
        held.is("a LEAD ends", x.told(6), 4);
        held.is("told(10)", x.told(10), 0);
    }

    private void twoOrMoreNotOut() {
        held.terms(9, "if two or more are not OUT.");
        BellSuitors x = Fed.with(SHORT);
        x.ring(1);
        held.is("of three", x.told(6), 2);
        x.ring(1);
        held.is("of two", x.told(6), 6);
        x.swap(0, 2);
        x.ring(2);
        held.is("of one: never", x.told(6), 6);
        x.forgive(1);
        x.ring(1);
        held.is("of two again", x.told(6), 6);
        BellSuitors y = Fed.with("b1,1,1;m1,4,1;r1;");
        y.ring(3);
        held.is("his BELL is last", y.bell(0, 1), 2);
        held.is("of one SUITOR: never", y.told(6), 0);
        y.ring(197);
        held.is("of one SUITOR: never", y.told(6), 0);
    }

    private void wedAlone() {
        held.terms(5, "WED: who alone is not OUT, of two SUITORS or more; NONE.");
        held.is("no SUITOR", Fed.with("b1,1,1;").told(7), NONE);
        held.is("one SUITOR", Fed.with("b1,1,1;r1;").told(7), NONE);
        held.is("two, nobody OUT", Fed.with("b1,1,1;r1;r1;").told(7), NONE);
        BellSuitors two = Fed.with("b1,1,1;m1;r1;r1;");
        two.ring(1);
        held.is("two, the second OUT", two.told(7), 0);
        two.forgive(1);
        held.is("forgiven", two.told(7), NONE);
        two.swap(0, 1);
        two.ring(2);
        held.is("two, the first OUT", two.told(7), 1);
        BellSuitors x = Fed.with(SHORT);
        x.ring(1);
        held.is("three, one OUT", x.told(7), NONE);
        x.ring(1);
        held.is("three, two OUT", x.told(7), 0);
    }

    private void stood() {
        held.terms(12, "STOOD: ROUNDS again, from THE METHOD's first CHANGE on; nothing is CALLED, nobody is TIRED; who is OUT stays so.");
        BellSuitors x = Fed.with("b9,9,9;m1,4;r1;r1;r1;c7;");
        x.wet(true);
        x.ring(3);
        x.swap(0, 1);
        x.call();
        x.stand();
        held.is("told(5)", x.told(5), 123);
        held.is("told(10)", x.told(10), 0);
        held.is("told(8)", x.told(8), 0);
        for (int r = 0; r < 3; r++) {
            held.is("suitor(" + r + ", 2)", x.suitor(r, 2), 0);
        }
        held.is("told(6)", x.told(6), 2);
        held.is("what it does not name stays: WET", x.told(9), 1);
        held.is("ROWS RUNG", x.told(4), 3);
        held.is("ropes", x.suitor(0, 1), 1);
        held.is("ring(1)", x.ring(1), 132);
    }

    private void wetOrNot() {
        held.terms(13, "WET: it is, or not (not at first).");
        BellSuitors x = Fed.with(SHORT);
        held.is("at first", x.told(9), 0);
        x.wet(true);
        held.is("it is", x.told(9), 1);
        x.wet(true);
        held.is("it is still", x.told(9), 1);
        x.wet(false);
        held.is("it is not", x.told(9), 0);
    }

    private void forgiven() {
        held.terms(14, "FORGIVEN: a SUITOR is OUT no more.");
        BellSuitors x = Fed.with(SHORT);
        x.ring(2);
        x.forgive(2);
        held.is("told(6)", x.told(6), 2);
        held.is("suitor(2, 3)", x.suitor(2, 3), 0);
        held.is("suitor(1, 3)", x.suitor(1, 3), 1);
        held.terms(11, "CHANGED: two SUITORS change ropes (BELLS).");
        x.swap(1, 2);
        held.is("one who is OUT too", x.suitor(1, 1), 2);
        held.is("and the other", x.suitor(2, 1), 1);
    }

    private void rowsFromZero() {
        held.terms(5, "ROWS RUNG are counted (from 0).");
        BellSuitors x = Fed.with(SHORT);
        held.is("at first", x.told(4), 0);
        x.ring(1);
        held.is("one", x.told(4), 1);
        x.ring(200);
        held.is("more", x.told(4), 201);
        x.drift(60);
        held.is("drifted ones too", x.told(4), 261);
        x.rowAt(500);
        held.is("tried ones not", x.told(4), 261);
        x.undo();
        held.is("undone", x.told(4), 201);
    }

    private void told() {
        held.promise(5, "0 BELLS, 1 CHANGES of THE METHOD, 2 SUITORS, 3 letters of THE TEXT, 4 ROWS RUNG, 5 the ROW now");
        held.promise(5, "6 who is OUT (a SET of SUITORS), 7 WED, 8 1 THE CALL comes next, 0 not, 9 1 it is WET, 0 not, "
            + "10 how many CHANGES of this LEAD have come, 11 what is HEARD, 12 LATE, 13 entries of THE BOOK, 14 how many can be undone.");
        BellSuitors x = Fed.with("b1,1,1,1,1;m1,16,28;r1;r1;r1;r1;c31;");
        held.same("told", toldAll(x), 5, 3, 4, 0, 0, 12345, 0, NONE, 0, 0, 0, 0, 31, 0, 0);
        x.ring(5);
        x.call();
        x.wet(true);
        x.feed(' ');
        x.hear(0, 13245);
        x.write(0, 0);
        x.write(0, 1);
        int row = ByHand.asNumber(rowsBehind(5));
        held.same("told", toldAll(x), 5, 3, 4, 1, 5, row, 8, NONE, 1, 1, 2, 1, 2, 2, 3);
        held.promise(5, "(0 without a TOWER),");
        held.is("told(5)", new BellSuitors().told(5), 0);
        held.promise(5, "OUTSIDE.");
        for (int what : new int[] {-1, 15, MIN, MAX}) {
            held.is("told(" + what + ")", x.told(what), OUTSIDE);
            held.is("without a TOWER", new BellSuitors().told(what), OUTSIDE);
        }
    }

    private static String rowsBehind(int n) {
        int[] method = {1, 16, 28};
        String row = ByHand.rounds(5);
        for (int i = 0; i < n; i++) {
            row = ByHand.changed(row, method[i % 3]);
        }
        return row;
    }

    private static int[] toldAll(BellSuitors x) {
        int[] all = new int[15];
        for (int what = 0; what < all.length; what++) {
            all[what] = x.told(what);
        }
        return all;
    }

    private void bell() {
        held.promise(7, "Of a BELL: what = 0 WEIGHT, 1 its PLACE now, 2 the SUITOR who rings it (NONE).");
        BellSuitors x = Fed.with("b3,5,8;m1;r4;r6;c7;");
        x.ring(1);
        held.same("bell(1, ..)", new int[] {x.bell(1, 0), x.bell(1, 1), x.bell(1, 2)}, 5, 2, 1);
        held.same("bell(2, ..)", new int[] {x.bell(2, 0), x.bell(2, 1), x.bell(2, 2)}, 8, 1, NONE);
        x.swap(0, 1);
        held.is("bell(0, 2)", x.bell(0, 2), 1);
        held.promise(7, "UNKNOWN, OUTSIDE.");
        for (int b : new int[] {-1, 3, 6, MIN, MAX}) {
            held.is("bell(" + b + ", 0)", x.bell(b, 0), UNKNOWN);
        }
        for (int what : new int[] {-1, 3, MIN, MAX}) {
            held.is("bell(2, " + what + ")", x.bell(2, what), OUTSIDE);
        }
    }

    private void suitor() {
        held.promise(8, "Of a SUITOR: what = 0 strength, 1 his BELL, 2 TIRED, 3 1 OUT, 0 not.");
        BellSuitors x = Fed.with("b9,9,9,9;m15;r4;r6;r7;r8;");
        x.swap(0, 3);
        x.ring(2);
        held.same("suitor(0, ..)", new int[] {x.suitor(0, 0), x.suitor(0, 1), x.suitor(0, 2), x.suitor(0, 3)}, 4, 3, 5, 1);
        held.same("suitor(3, ..)", new int[] {x.suitor(3, 0), x.suitor(3, 1), x.suitor(3, 2), x.suitor(3, 3)}, 8, 0, 2, 0);
        held.promise(8, "UNKNOWN, OUTSIDE.");
        BellSuitors y = Fed.with("b9,9,9,9;r4;r6;");
        for (int r : new int[] {-1, 2, 3, MIN, MAX}) {
            held.is("suitor(" + r + ", 0)", y.suitor(r, 0), UNKNOWN);
        }
        for (int what : new int[] {-1, 4, MIN, MAX}) {
            held.is("suitor(1, " + what + ")", y.suitor(1, what), OUTSIDE);
        }
        held.is("no SUITORS", Fed.with("b1,1,1;").suitor(0, 0), UNKNOWN);
    }

    private void ring() {
        held.promise(9, "n ROWS (1 .. 200) are RUNG: the ROW then.");
        BellSuitors x = Fed.with(SHORT);
        held.is("ring(1)", x.ring(1), 132);
        held.is("ring(200)", x.ring(200), 132);
        held.is("told(4)", x.told(4), 201);
        held.promise(9, "OUTSIDE,");
        for (int n : new int[] {0, -1, 201, MIN, MAX}) {
            held.is("ring(" + n + ")", x.ring(n), OUTSIDE);
        }
        held.is("told(4)", x.told(4), 201);
        held.promise(9, "NOT: no TOWER;");
        held.is("ring(1)", new BellSuitors().ring(1), NOT);
        held.is("ring(200)", new BellSuitors().ring(200), NOT);
    }

    private void ringIsFull() {
        held.promise(9, "FULL: ROWS RUNG are above 9000.");
        BellSuitors x = Fed.rung(SHORT, 9000);
        held.is("9000 are not above", x.ring(200), 123);
        held.is("told(4)", x.told(4), 9200);
        held.is("9200 are", x.ring(1), FULL);
        x.undo();
        held.is("undone", x.ring(1), 132);
        held.is("9001 are above", x.ring(1), FULL);
        held.is("9001 are above", x.ring(200), FULL);
        x.stand();
        held.is("stood, they are still RUNG", x.ring(1), FULL);
        Fed.tell(x, SHORT);
        held.is("a new TOWER", x.ring(1), 132);
        held.is("8999", Fed.rung(SHORT, 8999).ring(1), 123);
    }

    private void call() {
        held.promise(10, "CALLED: how many CHANGES of this LEAD have come.");
        BellSuitors x = Fed.with("b1,1,1;m1,4,1;c7;");
        int[] due = {0, 1, 2, 0, 1};
        for (int n = 0; n < due.length; n++) {
            held.is("call() behind " + n, x.call(), due[n]);
            x.ring(1);
        }
        held.promise(10, "NOT: no TOWER, it is CALLED.");
        held.is("no TOWER", new BellSuitors().call(), NOT);
        x.call();
        held.is("it is CALLED", x.call(), NOT);
        x.undo();
        held.is("undone", x.call(), 2);
        x.stand();
        held.is("stood", x.call(), 0);
    }

    private void swap() {
        held.promise(11, "CHANGED: the BELL of the first.");
        BellSuitors x = Fed.with("b1,1,1,1;r1;r1;r1;");
        held.is("swap(0, 2)", x.swap(0, 2), 2);
        held.is("swap(0, 1)", x.swap(0, 1), 1);
        held.is("swap(2, 1)", x.swap(2, 1), 2);
        held.same("ropes", new int[] {x.suitor(0, 1), x.suitor(1, 1), x.suitor(2, 1)}, 1, 0, 2);
        held.promise(11, "UNKNOWN.");
        for (int r : new int[] {-1, 3, 4, MIN, MAX}) {
            held.is("swap(" + r + ", 0)", x.swap(r, 0), UNKNOWN);
            held.is("swap(0, " + r + ")", x.swap(0, r), UNKNOWN);
            held.is("swap(" + r + ", " + r + ")", x.swap(r, r), UNKNOWN);
        }
        for (int r = 0; r < 3; r++) {
            held.is("one twice", x.swap(r, r), UNKNOWN);
        }
        held.is("no TOWER", new BellSuitors().swap(0, 1), UNKNOWN);
        held.is("one SUITOR", Fed.with("b1,1,1;r1;").swap(0, 1), UNKNOWN);
    }

    private void stand() {
        held.promise(12, "STOOD: the ROW ahead of it.");
        BellSuitors x = Fed.with(SHORT);
        held.is("in ROUNDS already", x.stand(), 123);
        held.is("it can be undone", x.told(14), 1);
        x.ring(1);
        held.is("stand()", x.stand(), 132);
        held.is("told(5)", x.told(5), 123);
        held.promise(12, "NOT: no TOWER.");
        held.is("no TOWER", new BellSuitors().stand(), NOT);
    }

    private void wet() {
        held.promise(13, "WET (is), or not: 1 it was, 0 not.");
        BellSuitors x = Fed.with(SHORT);
        held.is("wet(false), not at first", x.wet(false), 0);
        held.is("wet(true), it was not", x.wet(true), 0);
        held.is("wet(true), it was", x.wet(true), 1);
        held.is("wet(false), it was", x.wet(false), 1);
        held.is("each can be undone, as it was not refused", x.told(14), 4);
        held.promise(13, "NOT: no TOWER.");
        held.is("wet(true)", new BellSuitors().wet(true), NOT);
        held.is("wet(false)", new BellSuitors().wet(false), NOT);
    }

    private void forgive() {
        held.promise(14, "FORGIVEN: who is OUT yet.");
        BellSuitors x = Fed.with(SHORT);
        x.ring(2);
        held.is("one yet", x.forgive(1), 4);
        held.is("nobody", x.forgive(2), 0);
        held.promise(14, "UNKNOWN,");
        for (int r : new int[] {-1, 3, 31, 32, 33, MIN, MAX}) {
            held.is("forgive(" + r + ")", x.forgive(r), UNKNOWN);
        }
        held.is("no TOWER", new BellSuitors().forgive(0), UNKNOWN);
        held.promise(14, "NOT: he is not OUT.");
        held.is("never was", x.forgive(0), NOT);
        held.is("is no more", x.forgive(1), NOT);
    }

    private void drift() {
        held.promise(15, "n ROWS (1 .. 60) BY DRAWS: the ROW then.");
        BellSuitors x = Fed.with("b1,1,1;m1,4;c7;");
        x.seed(7);
        int[] due = {1, 60};
        for (int n : due) {
            int rung = x.told(4);
            held.is("drift(" + n + ") answers the ROW", x.drift(n), x.told(5));
            held.is("told(4)", x.told(4), rung + n);
        }
        held.promise(15, "OUTSIDE,");
        for (int n : new int[] {0, -1, 61, 200, MIN, MAX}) {
            held.is("drift(" + n + ")", x.drift(n), OUTSIDE);
        }
        held.promise(15, "NOT: no TOWER;");
        held.is("drift(1)", new BellSuitors().drift(1), NOT);
        held.is("drift(60)", new BellSuitors().drift(60), NOT);
    }

    private void driftIsFull() {
        held.promise(15, "FULL: ROWS RUNG are above 9000.");
        BellSuitors x = Fed.rung(SHORT, 9000);
        held.is("9000 are not above", x.drift(60) > 0 ? 1 : 0, 1);
        held.is("told(4)", x.told(4), 9060);
        int seed = x.seed(5);
        held.is("9060 are", x.drift(1), FULL);
        held.is("no DRAW then", x.seed(seed), 5);
        x.undo();
        x.ring(1);
        held.is("9001 are", x.drift(60), FULL);
    }

    private void undo() {
        held.promise(16, "The latest is undone: how many more can be.");
        BellSuitors x = Fed.with(SHORT);
        x.ring(1);
        x.wet(true);
        x.call();
        held.is("undo()", x.undo(), 2);
        held.is("CALLED no more", x.told(8), 0);
        held.is("WET yet", x.told(9), 1);
        held.is("undo()", x.undo(), 1);
        held.is("WET no more", x.told(9), 0);
        held.is("undo()", x.undo(), 0);
        held.is("told(5)", x.told(5), 123);
        held.promise(16, "NOT: none.");
        held.is("undo()", x.undo(), NOT);
        held.is("at first", Fed.with(SHORT).undo(), NOT);
        held.is("no TOWER", new BellSuitors().undo(), NOT);
    }

    private void sixteenKept() {
        held.terms(16, "(16 at most are kept, the oldest are lost):");
        for (int acts : new int[] {15, 16, 17, 31, 32, 33, 40}) {
            BellSuitors x = Fed.with(SHORT);
            for (int i = 0; i < acts; i++) {
                x.ring(1);
                held.is("told(14)", x.told(14), Math.min(16, i + 1));
            }
            for (int left = Math.min(16, acts) - 1; left >= 0; left--) {
                held.is(acts + " acts, undo()", x.undo(), left);
                held.is(acts + " acts, told(4)", x.told(4), Math.max(0, acts - 16) + left);
            }
            held.is(acts + " acts, undo()", x.undo(), NOT);
        }
        BellSuitors x = Fed.rung(SHORT, 4000);
        for (int i = 0; i < 5; i++) {
            x.undo();
        }
        x.ring(7);
        held.is("eleven and one", x.told(14), 12);
        held.is("the new one", x.undo(), 11);
        held.is("told(4)", x.told(4), 3000);
        held.is("the older ones", x.undo(), 10);
        held.is("told(4)", x.told(4), 2800);
    }

    private void whatIsUndone() {
        held.terms(16, "UNDONE: the latest of ring(), call(), swap(), stand(), wet(), forgive(), drift() that was not refused");
        BellSuitors x = Fed.with("b9,9,9;m1;r1;r1;r1;c7;");
        x.ring(2);
        held.is("ring()", x.told(14), 1);
        x.call();
        held.is("call()", x.told(14), 2);
        x.swap(0, 1);
        held.is("swap()", x.told(14), 3);
        x.stand();
        held.is("stand()", x.told(14), 4);
        x.wet(true);
        held.is("wet()", x.told(14), 5);
        x.forgive(1);
        held.is("forgive()", x.told(14), 6);
        x.drift(9);
        held.is("drift()", x.told(14), 7);
        x.hear(0, 213);
        x.write(0, 0);
        x.seed(3);
        x.feed(' ');
        x.tear();
        x.write(0, 1);
        x.undo();
        held.is("no other call, nor undo() itself", x.told(14), 6);
        held.is("THE BOOK stays", x.told(13), 1);
        held.terms(16, "all of section 2 is as ahead of it;");
        held.same("ahead of drift()", Probe.evening(x), 2, 123, 4, 0, 1, 0, 1, 0, 2, 0, 0, 0);
        x.undo();
        held.same("ahead of forgive()", Probe.evening(x), 2, 123, 6, 0, 1, 0, 1, 0, 2, 0, 0, 0);
        x.undo();
        held.same("ahead of wet()", Probe.evening(x), 2, 123, 6, 0, 0, 0, 1, 0, 2, 0, 0, 0);
        x.undo();
        held.same("ahead of stand()", Probe.evening(x), 2, 123, 6, 1, 0, 0, 1, 0, 2, 16, 8, 16);
        x.undo();
        held.same("ahead of swap()", Probe.evening(x), 2, 123, 6, 1, 0, 0, 0, 1, 2, 16, 8, 16);
        x.undo();
        held.same("ahead of call()", Probe.evening(x), 2, 123, 6, 0, 0, 0, 0, 1, 2, 16, 8, 16);
        x.undo();
        held.same("ahead of ring()", Probe.evening(x), 0, 123, 0, 0, 0, 0, 0, 1, 2, 0, 0, 0);
    }

    private void seedStays() {
        held.terms(16, "THE SEED stays.");
        BellSuitors x = Fed.with("b1,1,1;m1,4;c7;");
        x.drift(1);
        x.undo();
        held.is("as drift() left it", x.seed(9), 12345);
        x.ring(1);
        x.seed(8);
        x.undo();
        held.is("as seed() left it", x.seed(0), 8);
    }
}
