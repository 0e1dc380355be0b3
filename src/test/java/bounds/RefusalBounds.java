import java.util.ArrayList;
import java.util.List;
import java.util.function.Supplier;
import java.util.function.ToIntFunction;

/** The head of the Terms: numbers, SETS, and the refusals: each alone, their order, and that they change nothing. */
final class RefusalBounds {
    private static final int NONE = BellSuitors.NONE, UNKNOWN = BellSuitors.UNKNOWN, OUTSIDE = BellSuitors.OUTSIDE,
        NOT = BellSuitors.NOT, FULL = BellSuitors.FULL;
    private static final String BOB = "b3,5,8,12;m0,9,0,9,0,9,0,3;r4;r6;r7;c12;";

    private record Refused(String call, ToIntFunction<BellSuitors> made, int answer) {
    }

    private final Held held;
    private final List<Refused> refused = new ArrayList<>();

    RefusalBounds(Held held) {
        this.held = held;
    }

    void test() {
        constants();
        numbersFromZero();
        sets();
        cutTowardsZero();
        unknownFirst();
        outsideNext();
        notNext();
        fullLast();
        whatThereIsNot();
        oneTwice();
        changesNothingWhenFull();
        changesNothingInAFullText();
        changesNothingWithNoTower();
        changesNothingWithNothingKept();
        lastPromisedCall();
    }

    private void constants() {
        held.terms(1, "NONE is -1.");
        held.is("NONE", BellSuitors.NONE, -1);
        held.terms(1, "They are far below all that is counted: -1000000001 and on.");
        held.is("UNKNOWN", BellSuitors.UNKNOWN, -1000000001);
        held.is("OUTSIDE", BellSuitors.OUTSIDE, -1000000002);
        held.is("NOT", BellSuitors.NOT, -1000000003);
        held.is("FULL", BellSuitors.FULL, -1000000004);
        held.terms(28, "BILLION is 1000000000.");
        held.is("dry(0, 0)", new BellSuitors().dry(0, 0), 1000000000);
    }

    private void numbersFromZero() {
        held.terms(5, "What has a number has it from 0 on, as it comes.");
        BellSuitors x = Fed.with("b3,5,8;m1,4;r9;r7;");
        held.same("BELLS", new int[] {x.bell(0, 0), x.bell(1, 0), x.bell(2, 0), x.bell(3, 0)}, 3, 5, 8, UNKNOWN);
        held.same("SUITORS", new int[] {x.suitor(0, 0), x.suitor(1, 0), x.suitor(2, 0)}, 9, 7, UNKNOWN);
        held.same("CHANGES", new int[] {x.method(0), x.method(1), x.method(2)}, 1, 4, NONE);
        held.same("PLACES", new int[] {x.bell(0, 1), x.bell(2, 1)}, 0, 2);
        held.same("IMAGES", new int[] {x.keep(0), x.keep(1), x.keep(2)}, 1, 1, UNKNOWN);
        x.write(0, 1);
        held.is("entries", x.judge(), 0);
        held.is("letters", Fed.with("x").fault(), 0);
    }

    private void sets() {
        held.terms(5, "A SET is a whole number, bit k for k.");
        for (int b = 0; b < 3; b++) {
            BellSuitors x = Fed.with("b1,1,1;m7;r1;r1;r1;");
            if (b < 2) {
                x.swap(b, 2);
            }
            x.ring(1);
            held.is("SUITOR " + b + " is OUT", x.told(6), 1 << b);
        }
        BellSuitors x = Fed.with("b1,1,1;");
        x.hear(0, 213);
        held.is("BELL 0 is LATE", x.told(12), 1);
        held.is("PLACE 2 stays", Fed.with("b1,1,1;").change(123, 213), 4);
        held.is("PLACE 0 stays", Fed.with("b1,1,1;").change(123, 132), 1);
        held.is("LEADS 0 and 1 with THE CALL", Fed.with("b1,1,1;m7;c1;").touch(2, 1), 3);
    }

    private void cutTowardsZero() {
        held.terms(28, "All numbers are whole; / cuts towards 0.");
        held.is("1680 and 7 tenths", new BellSuitors().dry(5, 7), 1680);
        held.is("117 and 6 tenths", new BellSuitors().dry(6, 7), 117);
        held.is("8 and 19 hundredths", new BellSuitors().dry(7, 7), 8);
        held.is("56 hundredths", new BellSuitors().dry(8, 7), 0);
    }

    private void unknownFirst() {
        held.terms(7, "REFUSALS, of several the first in this order: UNKNOWN");
        BellSuitors none = new BellSuitors();
        BellSuitors x = Fed.with(BOB);
        held.is("bell: UNKNOWN, OUTSIDE", x.bell(4, 3), UNKNOWN);
        held.is("bell: UNKNOWN, OUTSIDE", none.bell(0, -1), UNKNOWN);
        held.is("suitor: UNKNOWN, OUTSIDE", x.suitor(3, 4), UNKNOWN);
        held.is("suitor: UNKNOWN, OUTSIDE", none.suitor(-1, 4), UNKNOWN);
        held.is("placeAt: UNKNOWN, OUTSIDE", x.placeAt(4, 501), UNKNOWN);
        held.is("placeAt: UNKNOWN, OUTSIDE", none.placeAt(0, -1), UNKNOWN);
        held.is("last: UNKNOWN, OUTSIDE", x.last(4, 0), UNKNOWN);
        held.is("last: UNKNOWN, OUTSIDE", none.last(0, 501), UNKNOWN);
        held.is("gap: UNKNOWN, OUTSIDE", x.gap(-1, 501), UNKNOWN);
        held.is("gap: UNKNOWN, OUTSIDE", none.gap(0, 0), UNKNOWN);
        held.is("forgive: UNKNOWN, NOT", x.forgive(3), UNKNOWN);
        held.is("goBack: UNKNOWN, NOT", x.goBack(2), UNKNOWN);
        held.is("goBack: UNKNOWN, NOT", none.goBack(-1), UNKNOWN);
        for (int i = 0; i < 15; i++) {
            x.write(0, 0);
        }
        held.is("write: UNKNOWN, FULL", x.write(4, 0), UNKNOWN);
        held.is("write: UNKNOWN, FULL", x.write(0, 4), UNKNOWN);
        held.is("write: FULL alone", x.write(0, 0), FULL);
    }

    private void outsideNext() {
        held.terms(9, "OUTSIDE (another number out of its bounds),");
        BellSuitors none = new BellSuitors();
        held.is("ring: OUTSIDE, NOT", none.ring(0), OUTSIDE);
        held.is("ring: OUTSIDE, NOT", none.ring(201), OUTSIDE);
        held.is("drift: OUTSIDE, NOT", none.drift(0), OUTSIDE);
        held.is("drift: OUTSIDE, NOT", none.drift(61), OUTSIDE);
        held.is("rowAt: OUTSIDE, NOT", none.rowAt(-1), OUTSIDE);
        held.is("rowAt: OUTSIDE, NOT", none.rowAt(501), OUTSIDE);
        held.is("touch: OUTSIDE, NOT", none.touch(0, 0), OUTSIDE);
        held.is("touch: OUTSIDE, NOT", none.touch(9, 1), OUTSIDE);
        held.is("touch: OUTSIDE, NOT", none.touch(1, 2), OUTSIDE);
        held.is("touch: OUTSIDE, NOT", none.touch(1, -1), OUTSIDE);
        BellSuitors x = Fed.rung(BOB, 9001);
        held.is("ring: OUTSIDE, FULL", x.ring(0), OUTSIDE);
        held.is("ring: OUTSIDE, FULL", x.ring(201), OUTSIDE);
        held.is("drift: OUTSIDE, FULL", x.drift(0), OUTSIDE);
        held.is("drift: OUTSIDE, FULL", x.drift(61), OUTSIDE);
        for (int i = 0; i < 6; i++) {
            x.hear(0, 2134);
        }
        held.is("hear: OUTSIDE, FULL", x.hear(501, 2134), OUTSIDE);
        held.is("hear: OUTSIDE, FULL", x.hear(0, 2133), OUTSIDE);
        held.is("hear: FULL alone", x.hear(0, 2134), FULL);
        BellSuitors full = new BellSuitors();
        Fed.feed(full, " ".repeat(240));
        held.is("feed: OUTSIDE, FULL", full.feed(256), OUTSIDE);
        held.is("feed: OUTSIDE, FULL", full.feed(-1), OUTSIDE);
    }

    private void notNext() {
        held.terms(6, "NOT (not now, as told),");
        BellSuitors none = new BellSuitors();
        held.is("method", none.method(0), NOT);
        held.is("ring", none.ring(1), NOT);
        held.is("call", none.call(), NOT);
        held.is("stand", none.stand(), NOT);
        held.is("wet", none.wet(true), NOT);
        held.is("drift", none.drift(1), NOT);
        held.is("undo", none.undo(), NOT);
        held.is("rowAt", none.rowAt(0), NOT);
        held.is("round", none.round(), NOT);
        held.is("trueFor", none.trueFor(), NOT);
        held.is("touch", none.touch(1, 0), NOT);
        held.is("follow", none.follow(), NOT);
        held.is("listen", none.listen(), NOT);
        held.is("goBack", none.goBack(0), NOT);
        BellSuitors gone = Fed.rung(BOB, 9001);
        gone.tower();
        held.is("no TOWER any more: NOT, and no ROW RUNG", gone.ring(1), NOT);
        held.is("no TOWER any more: NOT, and no ROW RUNG", gone.drift(1), NOT);
        BellSuitors x = Fed.with(BOB);
        x.call();
        held.is("call", x.call(), NOT);
        held.is("forgive", x.forgive(0), NOT);
    }

    private void fullLast() {
        held.terms(9, "FULL.");
        BellSuitors x = Fed.rung(BOB, 9001);
        held.is("ring", x.ring(1), FULL);
        held.is("drift", x.drift(1), FULL);
        held.is("other calls are not", x.stand() > 0 ? 1 : 0, 1);
        held.is("other calls are not", x.call(), 0);
    }

    private void whatThereIsNot() {
        held.terms(7, "(a BELL, PLACE, SUITOR, IMAGE that there is not;");
        BellSuitors x = Fed.with(BOB);
        for (int wrong : new int[] {-1, 4, Integer.MIN_VALUE, Integer.MAX_VALUE}) {
            held.is("a BELL", x.bell(wrong, 0), UNKNOWN);
            held.is("a BELL", x.placeAt(wrong, 0), UNKNOWN);
            held.is("a BELL", x.last(wrong, 1), UNKNOWN);
            held.is("a BELL", x.gap(wrong, 1), UNKNOWN);
            held.is("a BELL", x.write(wrong, 0), UNKNOWN);
            held.is("a PLACE", x.write(0, wrong), UNKNOWN);
        }
        for (int wrong : new int[] {-2, 3, Integer.MIN_VALUE, Integer.MAX_VALUE}) {
            held.is("a SUITOR", x.suitor(wrong, 0), UNKNOWN);
            held.is("a SUITOR", x.swap(wrong, 0), UNKNOWN);
            held.is("a SUITOR", x.swap(0, wrong), UNKNOWN);
            held.is("a SUITOR", x.forgive(wrong), UNKNOWN);
            held.is("a SUITOR", x.ropes(wrong), UNKNOWN);
        }
        for (int wrong : new int[] {-1, 2, Integer.MIN_VALUE, Integer.MAX_VALUE}) {
            held.is("an IMAGE", x.keep(wrong), UNKNOWN);
            held.is("an IMAGE", x.goBack(wrong), UNKNOWN);
        }
    }

    private void oneTwice() {
        held.terms(11, "bits of such; one twice, where two are asked),");
        BellSuitors x = Fed.with(BOB);
        for (int r = 0; r < 3; r++) {
            held.is("swap(" + r + ", " + r + ")", x.swap(r, r), UNKNOWN);
        }
        held.is("nothing to undo", x.told(14), 0);
        held.is("of BELL and PLACE each one is asked", x.write(2, 2), 1);
    }

    private void refuse(String call, int answer, ToIntFunction<BellSuitors> made) {
        refused.add(new Refused(call, made, answer));
    }

    /** Each of the calls alone, and then all of them, leave the object as another one that was not called. */
    private void changesNothing(String state, Supplier<BellSuitors> maker) {
        int[] due = Probe.everything(maker.get());
        BellSuitors all = maker.get();
        for (Refused r : refused) {
            BellSuitors x = maker.get();
            held.is(state + ": " + r.call(), r.made().applyAsInt(x), r.answer());
            held.same(state + " behind " + r.call(), Probe.everything(x), due);
            r.made().applyAsInt(all);
        }
        held.same(state + " behind all", Probe.everything(all), due);
        refused.clear();
    }

    /** Images, a past, a heard list and a book that are full, rows enough, somebody out, THE CALL called, half a text. */
    private static BellSuitors full() {
        BellSuitors x = Fed.rung(BOB, 8900);
        x.seed(77);
        x.keep(0);
        x.wet(true);
        x.swap(0, 2);
        x.ring(97);
        x.keep(1);
        for (int i = 0; i < 16; i++) {
            x.ring(1);
        }
        x.call();
        for (int i = 0; i < 15; i++) {
            x.write(i % 4, i % 3);
        }
        for (int i = 0; i < 6; i++) {
            x.hear(0, 2134);
        }
        Fed.feed(x, "b1,");
        return x;
    }

    private static int stillIn(BellSuitors x) {
        return Integer.numberOfTrailingZeros(~x.told(6));
    }

    private void changesNothingWhenFull() {
        held.terms(16, "What is refused changes nothing.");
        refuse("feed(-1)", OUTSIDE, x -> x.feed(-1));
        refuse("feed(256)", OUTSIDE, x -> x.feed(256));
        refuse("told(15)", OUTSIDE, x -> x.told(15));
        refuse("bell(4, 0)", UNKNOWN, x -> x.bell(4, 0));
        refuse("suitor(3, 0)", UNKNOWN, x -> x.suitor(3, 0));
        refuse("ring(0)", OUTSIDE, x -> x.ring(0));
        refuse("ring(201)", OUTSIDE, x -> x.ring(201));
        refuse("ring(1)", FULL, x -> x.ring(1));
        refuse("call()", NOT, x -> x.call());
        refuse("swap(0, 3)", UNKNOWN, x -> x.swap(0, 3));
        refuse("swap(-1, 0)", UNKNOWN, x -> x.swap(-1, 0));
        refuse("swap(1, 1)", UNKNOWN, x -> x.swap(1, 1));
        refuse("forgive(3)", UNKNOWN, x -> x.forgive(3));
        refuse("forgive() of one who is not OUT", NOT, x -> x.forgive(stillIn(x)));
        refuse("drift(0)", OUTSIDE, x -> x.drift(0));
        refuse("drift(61)", OUTSIDE, x -> x.drift(61));
        refuse("drift(1)", FULL, x -> x.drift(1));
        refuse("rowAt(501)", OUTSIDE, x -> x.rowAt(501));
        refuse("placeAt(0, 501)", OUTSIDE, x -> x.placeAt(0, 501));
        refuse("touch(9, 0)", OUTSIDE, x -> x.touch(9, 0));
        refuse("ropes(3)", UNKNOWN, x -> x.ropes(3));
        refuse("last(0, 501)", OUTSIDE, x -> x.last(0, 501));
        refuse("change(1234, 1)", OUTSIDE, x -> x.change(1234, 1));
        refuse("gap(0, 501)", OUTSIDE, x -> x.gap(0, 501));
        refuse("dry(61, 1)", OUTSIDE, x -> x.dry(61, 1));
        refuse("hear(0, 1)", OUTSIDE, x -> x.hear(0, 1));
        refuse("hear(1, 1234)", FULL, x -> x.hear(1, 1234));
        refuse("write(4, 0)", UNKNOWN, x -> x.write(4, 0));
        refuse("write(0, 0)", FULL, x -> x.write(0, 0));
        refuse("seed(-1)", OUTSIDE, x -> x.seed(-1));
        refuse("keep(2)", UNKNOWN, x -> x.keep(2));
        refuse("goBack(-1)", UNKNOWN, x -> x.goBack(-1));
        changesNothing("full", RefusalBounds::full);
    }

    private void changesNothingInAFullText() {
        refuse("feed(98)", FULL, x -> x.feed(98));
        refuse("feed(0)", FULL, x -> x.feed(0));
        refuse("feed(256)", OUTSIDE, x -> x.feed(256));
        changesNothing("a full text", () -> {
            BellSuitors x = Fed.with("b1,1,1;m1;r1;");
            x.ring(1);
            Fed.feed(x, "b2,2,2,2;" + " ".repeat(231));
            return x;
        });
    }

    private void changesNothingWithNoTower() {
        refuse("method(0)", NOT, x -> x.method(0));
        refuse("ring(1)", NOT, x -> x.ring(1));
        refuse("call()", NOT, x -> x.call());
        refuse("swap(0, 1)", UNKNOWN, x -> x.swap(0, 1));
        refuse("stand()", NOT, x -> x.stand());
        refuse("wet(true)", NOT, x -> x.wet(true));
        refuse("forgive(0)", UNKNOWN, x -> x.forgive(0));
        refuse("drift(1)", NOT, x -> x.drift(1));
        refuse("undo()", NOT, x -> x.undo());
        refuse("rowAt(0)", NOT, x -> x.rowAt(0));
        refuse("round()", NOT, x -> x.round());
        refuse("trueFor()", NOT, x -> x.trueFor());
        refuse("touch(1, 0)", NOT, x -> x.touch(1, 0));
        refuse("follow()", NOT, x -> x.follow());
        refuse("hear(0, 0)", OUTSIDE, x -> x.hear(0, 0));
        refuse("hear(0, 123)", OUTSIDE, x -> x.hear(0, 123));
        refuse("listen()", NOT, x -> x.listen());
        refuse("write(0, 0)", UNKNOWN, x -> x.write(0, 0));
        refuse("goBack(1)", NOT, x -> x.goBack(1));
        changesNothing("no TOWER", () -> {
            BellSuitors x = Fed.with("b1,1");
            x.seed(5);
            x.keep(0);
            x.seed(6);
            Fed.feed(x, "b2,2,2;");
            return x;
        });
    }

    private void changesNothingWithNothingKept() {
        refuse("undo()", NOT, x -> x.undo());
        refuse("goBack(0)", NOT, x -> x.goBack(0));
        refuse("goBack(1)", NOT, x -> x.goBack(1));
        changesNothing("nothing kept", () -> {
            BellSuitors x = Fed.with(BOB);
            x.seed(9);
            x.ring(5);
            x.undo();
            return x;
        });
    }

    private void lastPromisedCall() {
        held.head(9, "An object is used for at most 512 calls after it has been made;");
        BellSuitors x = new BellSuitors();
        int calls = 0;
        for (char letter : "b1,1,1;m1;".toCharArray()) {
            x.feed(letter);
            calls++;
        }
        x.tower();
        calls++;
        for (int rows = 1; calls < 511; calls++, rows++) {
            held.is("ring(1), call " + (calls + 1), x.ring(1), rows % 2 == 1 ? 132 : 123);
        }
        held.is("the 512th call", x.told(4), 500);
    }
}
