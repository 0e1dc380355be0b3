import java.util.ArrayList;
import java.util.Arrays;
import java.util.HashSet;
import java.util.List;
import java.util.Set;

/** What is tried (section 3 of the Terms) and promises 17 to 28. */
final class TriedBounds {
    private static final int NONE = BellSuitors.NONE, UNKNOWN = BellSuitors.UNKNOWN, OUTSIDE = BellSuitors.OUTSIDE,
        NOT = BellSuitors.NOT;
    private static final int MIN = Integer.MIN_VALUE, MAX = Integer.MAX_VALUE;
    private static final String BOB = "b3,5,8,12;m0,9,0,9,0,9,0,3;r4;r6;r7;c12;";
    /** Comes round behind 72 ROWS: no METHOD of 12 CHANGES on six BELLS takes longer. */
    private static final int[] LONG_METHOD = {0, 36, 9, 36, 51, 0, 9, 57, 0, 9, 36, 33};
    private static final int LONG_CALL = 48;
    private static final String LONG = "b1,1,1,1,1,1;m0,36,9,36,51,0,9,57,0,9,36,33;c48;";
    private final Held held;

    TriedBounds(Held held) {
        this.held = held;
    }

    void test() {
        nothingChanges();
        inAnyOrder();
        rowAt();
        calledNoMore();
        placeAt();
        round();
        roundNever();
        trueFor();
        touchBounds();
        touchFromRounds();
        touchOfCalls();
        touchComesRound();
        touchIsTrue();
        touchFirst();
        ropesLeast();
        ropesFirst();
        ropesRefused();
        last();
        nextOut();
        nextOutNever();
        change();
        changeNoRow();
        follow();
        gap();
        everyPairOfChanges();
        dry();
    }

    /** ROWS 0 to n from ROUNDS on, THE CALL in place of the first CHANGE if it is called. */
    private static List<String> rows(int[] method, int bells, int n, int call) {
        List<String> rows = new ArrayList<>();
        rows.add(ByHand.rounds(bells));
        for (int i = 0; i < n; i++) {
            rows.add(ByHand.changed(rows.get(i), i == 0 && call != NONE ? call : method[i % method.length]));
        }
        return rows;
    }

    private static BellSuitors busy() {
        BellSuitors x = Fed.with(BOB);
        x.seed(31);
        x.ring(9);
        x.keep(1);
        x.wet(true);
        x.ring(2);
        x.swap(0, 1);
        x.call();
        x.hear(3, 1234);
        x.write(2, 2);
        x.feed('b');
        return x;
    }

    private void nothingChanges() {
        held.terms(17, "TRIED from now; nothing changes by it.");
        BellSuitors x = busy();
        x.rowAt(500);
        x.placeAt(3, 500);
        x.round();
        x.trueFor();
        for (int n = 1; n <= 8; n++) {
            x.touch(n, n % 2);
        }
        x.ropes(NONE);
        x.ropes(2);
        x.last(0, 500);
        x.nextOut();
        x.change(1234, 2143);
        x.change(1234, 4321);
        x.follow();
        x.gap(1, 500);
        x.dry(60, 99);
        x.listen();
        x.judge();
        held.same("all that can be read", Probe.everything(x), Probe.everything(busy()));
    }

    private void inAnyOrder() {
        held.terms(21, "TRIED from now; nothing changes by it.");
        BellSuitors x = Fed.with(BOB);
        for (int i = 0; i < 2; i++) {
            held.is("trueFor()", x.trueFor(), 23);
            held.is("touch(3, 0) behind trueFor()", x.touch(3, 0), 2);
            held.is("gap(0, 500) behind touch()", x.gap(0, 500), 6);
            held.is("touch(3, 1) behind gap()", x.touch(3, 1), 0);
            held.is("trueFor() behind touch()", x.trueFor(), 23);
            held.is("gap(3, 24) behind trueFor()", x.gap(3, 24), 6);
            held.is("round()", x.round(), 24);
            held.is("nextOut() behind round()", x.nextOut(), 1);
            held.is("ropes(-1)", x.ropes(NONE), 1);
            held.is("last(0, 8)", x.last(0, 8), 2);
        }
    }

    private void rowAt() {
        held.terms(17, "ROW behind n ROWS (0 .. 500) of THE METHOD,");
        held.promise(17, "ROW behind n ROWS.");
        List<String> due = rows(LONG_METHOD, 6, 500, NONE);
        BellSuitors x = Fed.with(LONG);
        for (int n : new int[] {0, 1, 11, 12, 13, 71, 72, 73, 499, 500}) {
            held.is("rowAt(" + n + ")", x.rowAt(n), ByHand.asNumber(due.get(n)));
        }
        x.ring(200);
        held.is("from now", x.rowAt(0), ByHand.asNumber(due.get(200)));
        held.is("from now", x.rowAt(300), ByHand.asNumber(due.get(500)));
        held.promise(17, "OUTSIDE, NOT: no TOWER.");
        for (int n : new int[] {-1, 501, MIN, MAX}) {
            held.is("rowAt(" + n + ")", x.rowAt(n), OUTSIDE);
        }
        held.is("rowAt(0)", new BellSuitors().rowAt(0), NOT);
        held.is("rowAt(500)", new BellSuitors().rowAt(500), NOT);
    }

    private void calledNoMore() {
        held.terms(17, "no more CALLED than is;");
        List<String> due = rows(LONG_METHOD, 6, 500, LONG_CALL);
        BellSuitors x = Fed.with(LONG);
        x.call();
        for (int n : new int[] {0, 1, 2, 12, 13, 500}) {
            held.is("rowAt(" + n + ")", x.rowAt(n), ByHand.asNumber(due.get(n)));
        }
        held.is("it is CALLED yet", x.told(8), 1);
    }

    private void placeAt() {
        held.terms(18, "PLACE of a BELL then.");
        held.promise(18, "PLACE of a BELL behind n ROWS.");
        List<String> due = rows(LONG_METHOD, 6, 500, NONE);
        BellSuitors x = Fed.with(LONG);
        for (int n : new int[] {0, 1, 499, 500}) {
            for (int b = 0; b < 6; b++) {
                held.is("placeAt(" + b + ", " + n + ")", x.placeAt(b, n), due.get(n).indexOf('1' + b));
            }
        }
        held.promise(18, "UNKNOWN, OUTSIDE.");
        for (int b : new int[] {-1, 6, 7, MIN, MAX}) {
            held.is("placeAt(" + b + ", 0)", x.placeAt(b, 0), UNKNOWN);
        }
        held.is("of three BELLS", Fed.with("b1,1,1;").placeAt(3, 0), UNKNOWN);
        held.is("no TOWER", new BellSuitors().placeAt(0, 0), UNKNOWN);
        for (int n : new int[] {-1, 501, MIN, MAX}) {
            held.is("placeAt(0, " + n + ")", x.placeAt(0, n), OUTSIDE);
        }
    }

    private void round() {
        held.terms(19, "ROUND: behind how many ROWS (1 .. 1000) so ROUNDS come first; NONE.");
        held.is("the least: all stay", Fed.with("b1,1,1;").round(), 1);
        BellSuitors x = Fed.with(LONG);
        held.is("the most", x.round(), 72);
        x.ring(1);
        held.is("from the next ROW", x.round(), 71);
        x.ring(70);
        held.is("one ahead of ROUNDS", x.round(), 1);
        x.ring(1);
        held.is("in ROUNDS: they come again", x.round(), 72);
        BellSuitors y = Fed.with("b1,1,1;m1,1,4;");
        held.is("first within a LEAD", y.round(), 2);
        BellSuitors z = Fed.with("b1,1,1;m1;c4;");
        z.call();
        held.is("THE CALL leads away", z.round(), NONE);
        z.ring(1);
        z.call();
        held.is("THE CALL leads home", z.round(), 1);
    }

    private void roundNever() {
        held.promise(19, "ROUND; NONE.");
        BellSuitors x = Fed.with("b1,1,1;c1;");
        x.call();
        held.is("round()", x.round(), NONE);
        x.ring(1);
        held.is("round()", x.round(), NONE);
        x.stand();
        held.is("stood", x.round(), 1);
        held.promise(19, "NOT: no TOWER.");
        held.is("round()", new BellSuitors().round(), NOT);
    }

    private void trueFor() {
        held.terms(20, "TRUE: how many ROWS so are unlike each other and the ROW now, from the next one on till one is not.");
        held.promise(20, "TRUE.");
        held.is("all stay: none", Fed.with("b1,1,1;").trueFor(), 0);
        held.is("the next but one is as now", Fed.with("b1,1,1;m1;").trueFor(), 1);
        held.is("one is as another, not as now", Fed.with("b1,1,1;m1,4,4,4;").trueFor(), 2);
        BellSuitors x = Fed.with(LONG);
        held.is("the most without THE CALL", x.trueFor(), 71);
        x.ring(5);
        held.is("from another ROW", x.trueFor(), 71);
        BellSuitors y = Fed.with(LONG);
        y.call();
        held.is("the most with THE CALL", y.trueFor(), 72);
        held.promise(20, "NOT: no TOWER.");
        held.is("trueFor()", new BellSuitors().trueFor(), NOT);
    }

    private void touchBounds() {
        held.terms(21, "TOUCH of n LEADS (1 .. 8),");
        BellSuitors x = Fed.with("b1,1,1,1,1,1;m39,48,33,36;c0;");
        held.is("one LEAD", Fed.with("b1,1,1;m7;c1;").touch(1, 0), 1);
        held.is("eight LEADS", x.touch(8, 0), 14);
        held.promise(21, "TOUCH: what = 0 how many, 1 the first; NONE.");
        held.is("seven, how many", x.touch(7, 0), 7);
        held.is("seven, the first", x.touch(7, 1), 11);
        held.is("one, how many: none", x.touch(1, 0), 0);
        held.is("one, the first: NONE", x.touch(1, 1), NONE);
        held.promise(21, "OUTSIDE, NOT: no TOWER.");
        for (int n : new int[] {0, -1, 9, MIN, MAX}) {
            held.is("touch(" + n + ", 0)", x.touch(n, 0), OUTSIDE);
            held.is("touch(" + n + ", 1)", x.touch(n, 1), OUTSIDE);
        }
        for (int what : new int[] {-1, 2, MIN, MAX}) {
            held.is("touch(1, " + what + ")", x.touch(1, what), OUTSIDE);
            held.is("touch(8, " + what + ")", x.touch(8, what), OUTSIDE);
        }
        held.is("touch(1, 0)", new BellSuitors().touch(1, 0), NOT);
        held.is("touch(8, 1)", new BellSuitors().touch(8, 1), NOT);
    }

    private void touchFromRounds() {
        held.terms(21, "from ROUNDS at THE METHOD's first CHANGE:");
        BellSuitors x = Fed.with(BOB);
        for (int acts = 0; acts < 4; acts++) {
            held.is("touch(3, 0)", x.touch(3, 0), 2);
            held.is("touch(3, 1)", x.touch(3, 1), 0);
            x.ring(3);
            x.call();
        }
    }

    private void touchOfCalls() {
        held.terms(21, "rows of LEADS, each plain or with THE CALL in place of its last CHANGE,");
        BellSuitors called = Fed.with("b1,1,1;m7;c1;");
        held.is("THE CALL in both", called.touch(2, 1), 3);
        held.is("no other", called.touch(2, 0), 1);
        BellSuitors x = Fed.with("b1,1,1,1;m0,15;c9;");
        held.is("in place of the last alone", x.touch(4, 1), 15);
        held.is("no other", x.touch(4, 0), 1);
        BellSuitors like = Fed.with("b1,1,1,1,1,1;m0,33;c33;");
        held.is("like the last CHANGE: each plain or with it", like.touch(6, 0), 64);
        held.is("the first", like.touch(6, 1), 0);
    }

    private void touchComesRound() {
        held.terms(21, "by which ROUNDS come behind the last LEAD,");
        BellSuitors x = Fed.with(BOB);
        int[] due = {0, 0, 2, 0, 0, 0, 0, 0};
        for (int n = 1; n <= 8; n++) {
            held.is("touch(" + n + ", 0)", x.touch(n, 0), due[n - 1]);
        }
        BellSuitors y = Fed.with("b1,1,1;m1;c4;");
        int[] hunt = {0, 2, 0, 0, 0, 2, 0, 0};
        for (int n = 1; n <= 8; n++) {
            held.is("touch(" + n + ", 0)", y.touch(n, 0), hunt[n - 1]);
        }
    }

    private void touchIsTrue() {
        held.terms(21, "and no two ROWS of it are alike (ROUNDS at the end aside):");
        held.is("ROUNDS at the end alone", Fed.with("b1,1,1,1;m12,3,12,3;c15;").touch(1, 0), 1);
        held.is("ROUNDS within", Fed.with("b1,1,1;m1,1,4,4;c7;").touch(1, 0), 0);
        held.is("ROUNDS behind the first of two", Fed.with("b1,1,1;m7;c7;").touch(2, 0), 0);
        held.is("two alike, not ROUNDS", Fed.with("b1,1,1,1;m12,3,12,12,12,3;c15;").touch(1, 0), 0);
        held.is("two alike in two LEADS", Fed.with("b1,1,1,1;m12,3;c15;").touch(4, 0), 0);
    }

    private void touchFirst() {
        held.terms(21, "how many; the first (as a SET of LEADS with THE CALL; the least number); NONE.");
        int[] method = {39, 48, 33, 36};
        BellSuitors x = Fed.with("b1,1,1,1,1,1;m39,48,33,36;c0;");
        for (int n = 1; n <= 8; n++) {
            int count = 0;
            int first = NONE;
            for (int set = (1 << n) - 1; set >= 0; set--) {
                if (isTouch(method, 0, n, set)) {
                    count++;
                    first = set;
                }
            }
            held.is("touch(" + n + ", 0)", x.touch(n, 0), count);
            held.is("touch(" + n + ", 1)", x.touch(n, 1), first);
        }
        BellSuitors y = Fed.with("b1,1,1,1,1;m4,16,28,25,19;c28;");
        held.is("touch(8, 0)", y.touch(8, 0), 16);
        held.is("touch(8, 1)", y.touch(8, 1), 17);
    }

    private static boolean isTouch(int[] method, int call, int leads, int set) {
        Set<String> met = new HashSet<>();
        String row = ByHand.rounds(6);
        for (int lead = 0; lead < leads; lead++) {
            for (int i = 0; i < method.length; i++) {
                if (!met.add(row)) {
                    return false;
                }
                boolean called = i == method.length - 1 && (set >> lead & 1) == 1;
                row = ByHand.changed(row, called ? call : method[i]);
            }
        }
        return row.equals(ByHand.rounds(6));
    }

    private void ropesLeast() {
        held.terms(22, "ROPES: SUITORS to BELLS 0 to (how many SUITORS) less 1, one each, so that what WEIGHTS are above strengths is least together: "
            + "how much;");
        held.promise(22, "ROPES: r = NONE how much, else the BELL of a SUITOR.");
        held.is("no TOWER", new BellSuitors().ropes(NONE), 0);
        held.is("no SUITORS", Fed.with("b20,20,20;").ropes(NONE), 0);
        BellSuitors one = Fed.with("b20,1,1;r1;");
        held.is("one SUITOR: BELL 0 alone", one.ropes(NONE), 19);
        held.is("one SUITOR: BELL 0 alone", one.ropes(0), 0);
        BellSuitors two = Fed.with("b20,20,1;r1;r1;");
        held.is("BELLS beyond them are not shared", two.ropes(NONE), 38);
        held.is("the most", Fed.with("b20,20,20,20,20,20;" + "r1;".repeat(6)).ropes(NONE), 114);
        held.is("the least", Fed.with("b1,1,1,1,1,1;" + "r20;".repeat(6)).ropes(NONE), 0);
        BellSuitors x = Fed.with("b20,1,10;r1;r20;r9;");
        x.swap(0, 1);
        x.ring(2);
        held.is("how much", x.ropes(NONE), 1);
        held.same("ropes", new int[] {x.ropes(0), x.ropes(1), x.ropes(2)}, 1, 0, 2);
        BellSuitors together = Fed.with("b10,9,1;r5;r10;");
        held.is("together, not one by one", together.ropes(NONE), 4);
        held.same("together", new int[] {together.ropes(0), together.ropes(1)}, 1, 0);
    }

    private void ropesFirst() {
        held.terms(22, "of like ones the first (SUITOR by SUITOR the lesser BELL): the BELL of a SUITOR.");
        BellSuitors x = Fed.with("b1,1,1,1,1,1;" + "r1;".repeat(6));
        for (int r = 0; r < 6; r++) {
            held.is("all alike, ropes(" + r + ")", x.ropes(r), r);
        }
        BellSuitors y = Fed.with("b9,2,9,2;r2;r9;r2;r9;");
        int[] due = {1, 0, 3, 2};
        for (int r = 0; r < due.length; r++) {
            held.is("ropes(" + r + ")", y.ropes(r), due[r]);
        }
        BellSuitors z = Fed.with("b3,2,1;r1;r2;r3;");
        held.is("how much", z.ropes(NONE), 0);
        held.same("one way alone", new int[] {z.ropes(0), z.ropes(1), z.ropes(2)}, 2, 1, 0);
    }

    private void ropesRefused() {
        held.promise(22, "UNKNOWN.");
        BellSuitors x = Fed.with("b1,1,1,1;r1;r1;");
        for (int r : new int[] {-2, 2, 3, 4, MIN, MAX}) {
            held.is("ropes(" + r + ")", x.ropes(r), UNKNOWN);
        }
        held.is("no TOWER", new BellSuitors().ropes(0), UNKNOWN);
        held.is("no SUITORS", Fed.with("b1,1,1;").ropes(0), UNKNOWN);
    }

    private void last() {
        held.terms(23, "LAST: how often a BELL is in the last PLACE in the next n ROWS (1 .. 500) so.");
        held.promise(23, "LAST.");
        List<String> rows = rows(LONG_METHOD, 6, 500, LONG_CALL);
        BellSuitors x = Fed.with(LONG);
        x.call();
        for (int n : new int[] {1, 2, 12, 499, 500}) {
            for (int b = 0; b < 6; b++) {
                int often = 0;
                for (String row : rows.subList(1, n + 1)) {
                    often += row.charAt(5) == '1' + b ? 1 : 0;
                }
                held.is("last(" + b + ", " + n + ")", x.last(b, n), often);
            }
        }
        BellSuitors y = Fed.with("b1,1,1;");
        held.is("the most", y.last(2, 500), 500);
        held.is("the least", y.last(1, 500), 0);
        held.is("the ROW now does not count", Fed.with("b1,1,1;m1;").last(2, 1), 0);
        held.promise(23, "UNKNOWN, OUTSIDE.");
        for (int b : new int[] {-1, 3, MIN, MAX}) {
            held.is("last(" + b + ", 1)", y.last(b, 1), UNKNOWN);
        }
        for (int n : new int[] {0, -1, 501, MIN, MAX}) {
            held.is("last(0, " + n + ")", y.last(0, n), OUTSIDE);
        }
    }

    /** Rings one ROW after the other till somebody is OUT. */
    private static int firstOutByRinging(BellSuitors x, int rows) {
        int ahead = x.told(6);
        for (int i = 0; i < rows; i++) {
            x.ring(1);
            if (x.told(6) != ahead) {
                return Integer.numberOfTrailingZeros(x.told(6) ^ ahead);
            }
        }
        return NONE;
    }

    private void nextOut() {
        held.terms(24, "NEXT OUT: who of those not OUT now is OUT first within the next 500 ROWS so; NONE.");
        BellSuitors x = Fed.with(LONG + "r1;".repeat(6));
        for (int left = 6; left >= 2; left--) {
            int answer = x.nextOut();
            held.is(left + " left, nextOut()", answer, firstOutByRinging(x, 72));
            held.is(left + " left, there is one", answer == NONE ? 1 : 0, 0);
        }
        held.is("one left, nextOut()", x.nextOut(), NONE);
        BellSuitors called = Fed.with("b1,1,1;m1;r1;r1;r1;c7;");
        held.is("plain", called.nextOut(), 1);
        called.call();
        held.is("called", called.nextOut(), 2);
        called.swap(0, 2);
        held.is("by the ropes", called.nextOut(), 0);
        BellSuitors out = Fed.with("b1,1,1;m7;r1;r1;r1;c1;");
        out.ring(1);
        held.is("who is OUT now is not OUT first", out.nextOut(), NONE);
        out.forgive(2);
        held.is("forgiven, he is", out.nextOut(), 2);
    }

    private void nextOutNever() {
        held.promise(24, "NEXT OUT; NONE.");
        held.is("no TOWER", new BellSuitors().nextOut(), NONE);
        held.is("no SUITORS", Fed.with("b1,1,1;m1;").nextOut(), NONE);
        held.is("one SUITOR", Fed.with("b1,1,1;m1,4;r1;").nextOut(), NONE);
        held.is("a BELL that nobody rings is last", Fed.with("b1,1,1;r1;r1;").nextOut(), NONE);
        BellSuitors x = Fed.with("b1,1,1;m1;r1;r1;");
        held.is("two SUITORS", x.nextOut(), 1);
        x.ring(1);
        held.is("one is left", x.nextOut(), NONE);
    }

    private static List<String> allRows(int bells) {
        List<String> rows = new ArrayList<>();
        for (int v = ByHand.asNumber(ByHand.rounds(bells)); v <= 654321; v++) {
            if (isRow(Integer.toString(v), bells)) {
                rows.add(Integer.toString(v));
            }
        }
        return rows;
    }

    private static boolean isRow(String figures, int bells) {
        char[] c = figures.toCharArray();
        Arrays.sort(c);
        return new String(c).equals(ByHand.rounds(bells));
    }

    private void change() {
        held.terms(25, "CHANGE from a ROW to another (told by figures): the SET of PLACES that stay by the one CHANGE that makes it; NONE.");
        held.promise(25, "CHANGE; NONE.");
        for (int bells = 3; bells <= 6; bells++) {
            List<String> rows = allRows(bells);
            int from = rows.size() / 3;
            String row = rows.get(from);
            int made = 0;
            BellSuitors x = Fed.with(ByHand.bells(bells));
            for (int i = 0; i < rows.size(); i++) {
                if (i % 300 == 299) {
                    x = Fed.with(ByHand.bells(bells));
                }
                int due = NONE;
                for (int set = 0; set < 1 << bells; set++) {
                    boolean makes = ByHand.isChange(set, bells) && ByHand.changed(row, set).equals(rows.get(i));
                    due = makes ? set : due;
                }
                made += due == NONE ? 0 : 1;
                held.is("change(" + row + ", " + rows.get(i) + ")", x.change(ByHand.asNumber(row), ByHand.asNumber(rows.get(i))), due);
            }
            held.is(bells + " BELLS, ROWS that can follow, the same one too", made, new int[] {3, 5, 8, 13}[bells - 3]);
        }
        held.is("the same: all stay", Fed.with(BOB).change(4321, 4321), 15);
    }

    private void changeNoRow() {
        held.promise(25, "OUTSIDE: no ROW.");
        BellSuitors x = Fed.with(BOB);
        int[] none = {0, 1, 123, 12345, 123456, 1233, 1235, 1230, 234, 4320, 5432, 11234, 12340, -1234, -1, MIN, MAX, 1000001234};
        for (int row : none) {
            held.is("change(" + row + ", 1234)", x.change(row, 1234), OUTSIDE);
            held.is("change(1234, " + row + ")", x.change(1234, row), OUTSIDE);
        }
        held.is("the least ROW", x.change(1234, 1234), 15);
        held.is("the greatest ROW", x.change(4321, 4321), 15);
        held.is("three BELLS", Fed.with("b1,1,1;").change(123, 1234), OUTSIDE);
        held.is("six BELLS", Fed.with(LONG).change(654321, 654321), 63);
        held.is("six BELLS", Fed.with(LONG).change(123457, 123456), OUTSIDE);
        for (int row : new int[] {0, 1, 12, 123, NONE}) {
            held.is("no TOWER", new BellSuitors().change(row, row), OUTSIDE);
        }
    }

    private void follow() {
        held.terms(26, "FOLLOW: how many CHANGES there are by which not all stay.");
        held.promise(26, "FOLLOW.");
        int[] due = {2, 4, 7, 12};
        for (int bells = 3; bells <= 6; bells++) {
            BellSuitors x = Fed.with(ByHand.bells(bells) + "m" + ((1 << bells) - 4) + ";");
            held.is(bells + " BELLS, follow()", x.follow(), due[bells - 3]);
            x.ring(1);
            held.is(bells + " BELLS, from another ROW", x.follow(), due[bells - 3]);
        }
        held.promise(26, "NOT: no TOWER.");
        held.is("follow()", new BellSuitors().follow(), NOT);
    }

    private void gap() {
        held.terms(27, "GAP: of the ROW now and the next n ROWS (1 .. 500) so, if a BELL is left out of each, how many are unlike each other.");
        held.promise(27, "GAP.");
        List<String> rows = rows(LONG_METHOD, 6, 500, LONG_CALL);
        BellSuitors x = Fed.with(LONG);
        x.call();
        for (int n : new int[] {1, 2, 71, 72, 73, 499, 500}) {
            for (int b = 0; b < 6; b++) {
                Set<String> unlike = new HashSet<>();
                for (String row : rows.subList(0, n + 1)) {
                    unlike.add(row.replace(Integer.toString(b + 1), ""));
                }
                held.is("gap(" + b + ", " + n + ")", x.gap(b, n), unlike.size());
            }
        }
        held.is("all stay: the ROW now alone", Fed.with("b1,1,1;").gap(0, 500), 1);
        BellSuitors y = Fed.with("b1,1,1;m1;");
        held.is("the BELL that changes, left out", y.gap(1, 1), 1);
        held.is("the BELL that stays, left out", y.gap(0, 1), 2);
        held.promise(27, "UNKNOWN, OUTSIDE.");
        for (int b : new int[] {-1, 3, MIN, MAX}) {
            held.is("gap(" + b + ", 1)", y.gap(b, 1), UNKNOWN);
        }
        for (int n : new int[] {0, -1, 501, MIN, MAX}) {
            held.is("gap(0, " + n + ")", y.gap(0, n), OUTSIDE);
        }
    }

    private void everyPairOfChanges() {
        held.terms(27, "how many are unlike each other.");
        for (int set = 0; set < 64; set++) {
            for (int other = 0; other < 64; other++) {
                if (ByHand.isChange(set, 6) && ByHand.isChange(other, 6)) {
                    unlikeBySets(set, other);
                }
            }
        }
    }

    private void unlikeBySets(int set, int other) {
        List<String> rows = rows(new int[] {set, other}, 6, 60, LONG_CALL);
        BellSuitors x = Fed.with("b1,1,1,1,1,1;m" + set + "," + other + ";c48;");
        x.call();
        for (int b = 0; b < 6; b++) {
            Set<String> unlike = new HashSet<>();
            for (String row : rows) {
                unlike.add(row.replace(Integer.toString(b + 1), ""));
            }
            held.is("m" + set + "," + other + ", gap(" + b + ", 60)", x.gap(b, 60), unlike.size());
        }
        int n = 1;
        while (rows.indexOf(rows.get(n)) == n) {
            n++;
        }
        held.is("m" + set + "," + other + ", trueFor()", x.trueFor(), n - 1);
    }

    private void dry() {
        held.terms(28, "DRY: odds of n dry evenings (0 .. 60), each by q of a hundred (0 .. 100): a BILLION times q / 100 each (cut).");
        held.promise(28, "DRY.");
        BellSuitors x = new BellSuitors();
        held.is("no evening", x.dry(0, 0), 1000000000);
        held.is("no evening", x.dry(0, 100), 1000000000);
        held.is("never dry", x.dry(1, 0), 0);
        held.is("never dry", x.dry(60, 0), 0);
        held.is("always dry", x.dry(60, 100), 1000000000);
        held.is("the least odds", x.dry(1, 1), 10000000);
        held.is("four times a hundredth", x.dry(4, 1), 10);
        held.is("five times: cut to 0", x.dry(5, 1), 0);
        held.is("sixty evenings", x.dry(60, 99), 547156620);
        held.is("one fewer", x.dry(59, 99), 552683455);
        held.is("cut at each", x.dry(11, 33), 5053);
        held.promise(28, "OUTSIDE.");
        for (int n : new int[] {-1, 61, MIN, MAX}) {
            held.is("dry(" + n + ", 50)", x.dry(n, 50), OUTSIDE);
        }
        for (int q : new int[] {-1, 101, MIN, MAX}) {
            held.is("dry(1, " + q + ")", x.dry(1, q), OUTSIDE);
            held.is("dry(0, " + q + ")", x.dry(0, q), OUTSIDE);
        }
        held.is("with a TOWER too", Fed.with(BOB).dry(3, 90), 729000000);
    }
}
