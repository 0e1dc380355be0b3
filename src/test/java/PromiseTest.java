/** Each promise by its number: ordinary inputs, the edges that the document names, wrong inputs, the order of refusals. */
public final class PromiseTest {
    private static final int NONE = -1, UNKNOWN = -1000000001, OUTSIDE = -1000000002, NOT = -1000000003, FULL = -1000000004;
    private static final String BOB = "b3,5,8,12;m0,9,0,9,0,9,0,3;r4;r6;r7;c12;";
    private static final String SIX = "b20,20,20,1,1,1;m0,33,0,33,0,33,0,33,0,33,0,3;r1;r20;r1;r20;r1;r20;c15;";
    private static final String SHORT = "b1,1,1;m1;r1;r1;r1;c7;";
    private static final Due due = new Due();
    private static int promise = 0;

    private static void is(String call, long got, long want) {
        due.is("promise " + promise + ": " + call, got, want);
    }

    private static void all(String call, int[] got, int... want) {
        is(call + " length", got.length, want.length);
        for (int i = 0; i < Math.min(got.length, want.length); i++) {
            is(call + " [" + i + "]", got[i], want[i]);
        }
    }

    private static int[] everythingTold(BellSuitors x) {
        int[] all = new int[15];
        for (int what = 0; what < all.length; what++) {
            all[what] = x.told(what);
        }
        return all;
    }

    public static void main(String[] args) {
        newObject();
        feed();
        tower();
        fault();
        told();
        method();
        bell();
        suitor();
        ring();
        ringTires();
        ringSendsOut();
        call();
        swap();
        stand();
        wet();
        forgive();
        drift();
        undo();
        rowAt();
        placeAt();
        round();
        trueFor();
        touch();
        ropes();
        last();
        nextOut();
        change();
        follow();
        gap();
        dry();
        hear();
        listen();
        write();
        tear();
        judge();
        seed();
        keep();
        goBack();
        due.end();
    }

    private static void newObject() {
        promise = 1;
        all("told", everythingTold(new BellSuitors()), 0, 0, 0, 0, 0, 0, 0, NONE, 0, 0, 0, 0, 0, 0, 0);
        BellSuitors x = new BellSuitors();
        is("fault()", x.fault(), NONE);
        is("method(-1)", x.method(-1), NOT);
        is("bell(0, 0)", x.bell(0, 0), UNKNOWN);
        is("suitor(0, 0)", x.suitor(0, 0), UNKNOWN);
        is("swap(0, 1)", x.swap(0, 1), UNKNOWN);
        is("forgive(0)", x.forgive(0), UNKNOWN);
        is("undo()", x.undo(), NOT);
        is("placeAt(0, 0)", x.placeAt(0, 0), UNKNOWN);
        is("last(0, 1)", x.last(0, 1), UNKNOWN);
        is("gap(0, 1)", x.gap(0, 1), UNKNOWN);
        is("write(0, 0)", x.write(0, 0), UNKNOWN);
        is("ropes(0)", x.ropes(0), UNKNOWN);
        is("ropes(-1)", x.ropes(-1), 0);
        is("tear()", x.tear(), 0);
        is("told(12)", x.told(12), 0);
        is("seed(0)", x.seed(0), 0);
        is("goBack(0)", x.goBack(0), NOT);
        is("goBack(1)", x.goBack(1), NOT);
    }

    private static void feed() {
        promise = 2;
        BellSuitors x = new BellSuitors();
        is("feed(-1)", x.feed(-1), OUTSIDE);
        is("feed(256)", x.feed(256), OUTSIDE);
        is("feed(0)", x.feed(0), 1);
        is("feed(255)", x.feed(255), 2);
        for (int i = 3; i <= 240; i++) {
            is("feed(32)", x.feed(32), i);
        }
        is("the 241st", x.feed(32), FULL);
        is("outside ahead of full", x.feed(256), OUTSIDE);
        is("told(3)", x.told(3), 240);
        is("tower()", x.tower(), -11);
        is("fault()", x.fault(), 0);
        is("feed behind tower()", x.feed(98), 1);
        BellSuitors y = new BellSuitors();
        Fed.feed(y, " ".repeat(232) + "b1,1,1;");
        is("239 letters", y.told(3), 239);
        is("tower()", y.tower(), 3);
    }

    private static void tower() {
        promise = 3;
        BellSuitors x = Fed.with(BOB);
        x.ring(8);
        x.call();
        x.wet(true);
        x.hear(0, 1234);
        x.write(0, 0);
        x.seed(99);
        x.keep(1);
        x.swap(0, 1);
        x.ring(3);
        int[] ahead = everythingTold(x);
        is("a fault", Fed.tell(x, "b1,1,1;m0;"), -14);
        all("all else is as it was", everythingTold(x), ahead);
        is("suitor(0, 1)", x.suitor(0, 1), 1);
        is("suitor(0, 0)", x.suitor(0, 0), 4);
        is("method(7)", x.method(7), 3);
        is("bell(3, 0)", x.bell(3, 0), 12);
        is("undo()", x.undo(), 1);
        is("goBack(1)", x.goBack(1), 1);
        x.ring(1);
        is("another", Fed.tell(x, SHORT), 3);
        all("told", everythingTold(x), 3, 1, 3, 0, 0, 123, 0, NONE, 0, 0, 0, 0, 7, 0, 0);
        is("suitor(0, 1)", x.suitor(0, 1), 0);
        is("suitor(2, 2)", x.suitor(2, 2), 0);
        is("images are gone", x.goBack(1), NOT);
        is("undo()", x.undo(), NOT);
        is("judge()", x.judge(), NONE);
        is("the seed stays", x.seed(5), 99);
        is("blanks alone", Fed.tell(x, "  "), 0);
        all("told", everythingTold(x), 0, 0, 0, 0, 0, 0, 0, NONE, 0, 0, 0, 0, 0, 0, 0);
        is("seed", x.seed(5), 5);
        is("ring(1)", x.ring(1), NOT);
        Fed.tell(x, SHORT);
        x.swap(0, 2);
        x.swap(1, 2);
        Fed.tell(x, SHORT);
        for (int r = 0; r < 3; r++) {
            is("ropes as at first", x.suitor(r, 1), r);
        }
        is("no m, no c", Fed.tell(x, "b1,2,3,4,5;"), 5);
        is("told(1)", x.told(1), 1);
        is("method(0)", x.method(0), 31);
        is("method(-1)", x.method(-1), 31);
        is("ring(7)", x.ring(7), 12345);
    }

    private static void reads(String text, int answer, int at) {
        BellSuitors x = Fed.with(SHORT);
        is("tower() of \"" + text + "\"", Fed.tell(x, text), answer);
        is("fault() of \"" + text + "\"", x.fault(), at);
        is("text of \"" + text + "\"", x.told(3), 0);
        is("bells of \"" + text + "\"", x.told(0), answer < 0 ? 3 : answer);
    }

    private static void fault() {
        promise = 4;
        reads("", 0, NONE);
        reads("b20,1,020;", 3, NONE);
        reads(" b 1 , 1 , 001 ; r 1 ; m 1 , 4 ; c 7 ; r 20 ; r 3 ; ", 3, NONE);
        reads("b1,1,1,1,1,1;c63;m63;", 6, NONE);
        reads("b1,1,1;m1,1,1,1,1,1,1,1,1,1,1,1;", 3, NONE);
        faultsOfPlace();
        faultsOfNumbers();
        reads("b1,1,1;b1,1,1;", -13, 7);
        reads("b1,1,1; m7;m7;", -13, 11);
        reads("b1,1,1;c7;c7;", -13, 10);
        reads("b1,1,1;r1;r1;r1;r1;", -13, 16);
        reads("b1,1,1;m5;", -14, 8);
        reads("b1,1,1;m1, 2;", -14, 11);
        reads("b1,1,1,1;c 1;", -14, 11);
        reads("b1,1,1,1,1,1;m4;", -14, 14);
        reads("b1,1,1,1,1,1;m12;", 6, NONE);
        BellSuitors x = Fed.with("m");
        is("fault()", x.fault(), 0);
        is("a good one behind", Fed.tell(x, SHORT), 3);
        is("fault() then", x.fault(), NONE);
    }

    private static void faultsOfPlace() {
        reads("m1;", -11, 0);
        reads("r1;b1,1,1;", -11, 0);
        reads("  c1;", -11, 2);
        reads("b", -11, 1);
        reads("b ", -11, 2);
        reads("b1,1,1", -11, 6);
        reads("b1,1;", -11, 4);
        reads("b1;", -11, 2);
        reads("b;", -11, 1);
        reads("b1,1,1,1,1,1,1;", -11, 12);
        reads("b1,1,1;m", -11, 8);
        reads("b1,1,1;m;", -11, 8);
        reads("b1,1,1;x", -11, 7);
        reads("b1,1,1;;", -11, 7);
        reads("b1,1,1;B", -11, 7);
        reads("b1 1,1;", -11, 3);
        reads("b1,\t1,1;", -11, 3);
        reads("b1,,1;", -11, 3);
        reads("b1,1,1;m1m", -11, 9);
        reads("b1,1,1;1234", -11, 7);
        reads("b1,1,1 1234;", -11, 7);
        reads("b1,1,1;r1,2;", -11, 9);
        reads("b1,1,1;c1,4;", -11, 9);
        reads("b1,1,1;r1;r", -11, 11);
        reads("b1,1,1;m1,1,1,1,1,1,1,1,1,1,1,1,1;", -11, 31);
        reads("b1,1,1;m-1;", -11, 8);
    }

    private static void faultsOfNumbers() {
        reads("b0,1,1;", -12, 1);
        reads("b1, 21,1;", -12, 4);
        reads("b0001,1,1;", -12, 1);
        reads("b1,1,25", -12, 5);
        reads("b1,1,1;r0;", -12, 8);
        reads("b1,1,1;r21;", -12, 8);
        reads("b1,1,1;m8;", -12, 8);
        reads("b1,1,1;m0007;", -12, 8);
        reads("b1,1,1;c999;", -12, 8);
        reads("b1,1,1;m1,10;", -12, 10);
        reads("b1,1,1;m8,0;", -12, 8);
        reads("b1,1,1;m0,8;", -14, 8);
    }

    private static void told() {
        promise = 5;
        BellSuitors x = Fed.with(BOB);
        all("at first", everythingTold(x), 4, 8, 3, 0, 0, 1234, 0, NONE, 0, 0, 0, 0, 15, 0, 0);
        x.ring(8);
        x.ring(3);
        x.call();
        x.wet(true);
        x.feed(98);
        x.hear(0, 2134);
        x.hear(8, 3142);
        x.write(0, 0);
        all("later", everythingTold(x), 4, 8, 3, 1, 11, x.rowAt(0), 2, NONE, 1, 1, 3, 2, 1, 1, 4);
        is("told(-1)", x.told(-1), OUTSIDE);
        is("told(15)", x.told(15), OUTSIDE);
        x.stand();
        is("rows rung stay", x.told(4), 11);
        is("lead", x.told(10), 0);
        BellSuitors y = Fed.with("b1,1,1;r1;");
        is("one suitor is not wed", y.told(7), NONE);
    }

    private static void method() {
        promise = 6;
        BellSuitors x = Fed.with(BOB);
        is("method(0)", x.method(0), 0);
        is("method(1)", x.method(1), 9);
        is("method(7)", x.method(7), 3);
        is("method(8)", x.method(8), NONE);
        is("method(-2)", x.method(-2), NONE);
        is("method(max)", x.method(Integer.MAX_VALUE), NONE);
        is("method(-1)", x.method(-1), 12);
        is("without a tower", new BellSuitors().method(8), NOT);
    }

    private static void bell() {
        promise = 7;
        BellSuitors x = Fed.with(BOB);
        x.ring(2);
        x.swap(0, 2);
        is("bell(0, 0)", x.bell(0, 0), 3);
        is("bell(3, 0)", x.bell(3, 0), 12);
        is("bell(3, 1)", x.bell(3, 1), 1);
        is("bell(0, 1)", x.bell(0, 1), 2);
        is("bell(0, 2)", x.bell(0, 2), 2);
        is("bell(3, 2)", x.bell(3, 2), NONE);
        is("bell(4, 0)", x.bell(4, 0), UNKNOWN);
        is("bell(-1, 0)", x.bell(-1, 0), UNKNOWN);
        is("bell(0, 3)", x.bell(0, 3), OUTSIDE);
        is("bell(0, -1)", x.bell(0, -1), OUTSIDE);
        is("unknown ahead of outside", x.bell(4, 9), UNKNOWN);
    }

    private static void suitor() {
        promise = 8;
        BellSuitors x = Fed.with(BOB);
        x.ring(8);
        is("suitor(1, 0)", x.suitor(1, 0), 6);
        is("suitor(1, 1)", x.suitor(1, 1), 1);
        is("suitor(2, 2)", x.suitor(2, 2), 8);
        is("suitor(1, 3)", x.suitor(1, 3), 1);
        is("suitor(0, 3)", x.suitor(0, 3), 0);
        is("suitor(3, 0)", x.suitor(3, 0), UNKNOWN);
        is("suitor(-1, 0)", x.suitor(-1, 0), UNKNOWN);
        is("suitor(0, 4)", x.suitor(0, 4), OUTSIDE);
        is("suitor(0, -1)", x.suitor(0, -1), OUTSIDE);
        is("unknown ahead of outside", x.suitor(3, 4), UNKNOWN);
    }

    private static void ring() {
        promise = 9;
        BellSuitors x = Fed.with(BOB);
        int[] rows = {2143, 2413, 4231, 4321, 3412, 3142, 1324, 1342, 3124};
        for (int row : rows) {
            is("ring(1)", x.ring(1), row);
        }
        is("ring(15)", x.ring(15), 1234);
        is("ring(0)", x.ring(0), OUTSIDE);
        is("ring(201)", x.ring(201), OUTSIDE);
        is("outside ahead of not", new BellSuitors().ring(0), OUTSIDE);
        is("no tower", new BellSuitors().ring(200), NOT);
        is("told(4)", x.told(4), 24);
        x = Fed.with(BOB);
        for (int i = 0; i < 45; i++) {
            x.ring(200);
        }
        is("told(4)", x.told(4), 9000);
        is("9000 are not above 9000", x.ring(1), 2143);
        is("ring(1)", x.ring(1), FULL);
        is("drift(1)", x.drift(1), FULL);
        is("outside ahead of full", x.ring(201), OUTSIDE);
        is("outside ahead of full", x.drift(61), OUTSIDE);
        is("told(4)", x.told(4), 9001);
        is("undo()", x.undo(), 15);
        is("ring(200)", x.ring(200), 1342);
        is("told(4)", x.told(4), 9200);
        x.stand();
        is("stand() leaves rows rung", x.ring(1), FULL);
    }

    private static void ringTires() {
        BellSuitors x = Fed.with("b20,3,1;r1;");
        for (int i = 0; i < 2; i++) {
            x.ring(200);
        }
        x.ring(126);
        is("526 rows", x.suitor(0, 2), 9994);
        x.ring(1);
        is("at most", x.suitor(0, 2), 9999);
        x.wet(true);
        x.ring(1);
        is("at most in the wet", x.suitor(0, 2), 9999);
        x = Fed.with("b20,3,1;r1;r5;r1;");
        x.wet(true);
        x.ring(1);
        is("heavy, wet", x.suitor(0, 2), 20);
        is("strong, wet", x.suitor(1, 2), 1);
        is("even, wet", x.suitor(2, 2), 1);
        x.wet(false);
        x.ring(1);
        is("heavy, dry", x.suitor(0, 2), 39);
        is("strong, dry", x.suitor(1, 2), 1);
        is("he who is out tires no more", x.suitor(2, 2), 1);
    }

    private static void ringSendsOut() {
        BellSuitors x = Fed.with(SHORT);
        is("ring(1)", x.ring(1), 132);
        is("told(6)", x.told(6), 2);
        is("told(7)", x.told(7), NONE);
        x.ring(1);
        is("told(6)", x.told(6), 6);
        is("told(7)", x.told(7), 0);
        x.swap(0, 2);
        x.ring(2);
        is("the last one is never out", x.told(6), 6);
        x = Fed.with("b1,1,1;m7;r1;r1;");
        x.ring(10);
        is("a bell that nobody rings", x.told(6), 0);
        x = Fed.with("b1,1,1;m1,4;c7;r1;r1;");
        x.ring(1);
        is("within a lead nobody is out", x.told(6), 0);
        x.call();
        is("the call in the last one's place", x.ring(1), 132);
        is("told(6)", x.told(6), 2);
        is("told(7)", x.told(7), 0);
        is("told(10)", x.told(10), 0);
        x = Fed.with("b1,1,1;m7;r1;");
        x.swap(0, 0);
        x.ring(1);
        is("one suitor", x.told(6), 0);
    }

    private static void call() {
        promise = 10;
        BellSuitors x = Fed.with(BOB);
        is("call()", x.call(), 0);
        is("again", x.call(), NOT);
        is("told(8)", x.told(8), 1);
        is("told(14)", x.told(14), 1);
        is("ring(1)", x.ring(1), 2134);
        is("told(8)", x.told(8), 0);
        is("in its place, once", x.ring(1), 2314);
        is("call()", x.call(), 2);
        is("no tower", new BellSuitors().call(), NOT);
    }

    private static void swap() {
        promise = 11;
        BellSuitors x = Fed.with(BOB);
        is("swap(0, 2)", x.swap(0, 2), 2);
        is("swap(1, 0)", x.swap(1, 0), 2);
        is("suitor(0, 1)", x.suitor(0, 1), 1);
        is("suitor(1, 1)", x.suitor(1, 1), 2);
        is("suitor(2, 1)", x.suitor(2, 1), 0);
        is("bell(1, 2)", x.bell(1, 2), 0);
        x.ring(1);
        is("tired by the other bell", x.suitor(0, 2), 1);
        is("swap(1, 1)", x.swap(1, 1), UNKNOWN);
        is("swap(0, 3)", x.swap(0, 3), UNKNOWN);
        is("swap(-1, 0)", x.swap(-1, 0), UNKNOWN);
        is("swap(3, 3)", x.swap(3, 3), UNKNOWN);
    }

    private static void stand() {
        promise = 12;
        BellSuitors x = Fed.with(BOB);
        x.wet(true);
        x.ring(8);
        x.swap(0, 2);
        x.ring(3);
        x.call();
        int row = x.told(5);
        is("stand()", x.stand(), row);
        all("told", everythingTold(x), 4, 8, 3, 0, 11, 1234, 2, NONE, 0, 1, 0, 0, 15, 0, 6);
        is("suitor(0, 2)", x.suitor(0, 2), 0);
        is("suitor(2, 2)", x.suitor(2, 2), 0);
        is("ropes stay", x.suitor(0, 1), 2);
        is("ring(1)", x.ring(1), 2143);
        is("no tower", new BellSuitors().stand(), NOT);
    }

    private static void wet() {
        promise = 13;
        BellSuitors x = Fed.with(BOB);
        is("wet(false)", x.wet(false), 0);
        is("wet(true)", x.wet(true), 0);
        is("wet(true)", x.wet(true), 1);
        is("told(9)", x.told(9), 1);
        is("wet(false)", x.wet(false), 1);
        is("told(9)", x.told(9), 0);
        is("each can be undone", x.told(14), 4);
        is("no tower", new BellSuitors().wet(true), NOT);
    }

    private static void forgive() {
        promise = 14;
        BellSuitors x = Fed.with(SHORT);
        is("forgive(0)", x.forgive(0), NOT);
        x.ring(2);
        is("forgive(0)", x.forgive(0), NOT);
        is("forgive(1)", x.forgive(1), 4);
        is("told(6)", x.told(6), 4);
        is("told(7)", x.told(7), NONE);
        is("forgive(2)", x.forgive(2), 0);
        is("forgive(3)", x.forgive(3), UNKNOWN);
        is("forgive(-1)", x.forgive(-1), UNKNOWN);
        x.ring(1);
        is("out again", x.told(6), 2);
        is("undo()", x.undo(), 3);
        is("undo()", x.undo(), 2);
        is("forgiven undone", x.told(6), 4);
    }

    private static long lcg = 0;

    private static int draw(int n) {
        lcg = (lcg * 1103515245L + 12345L) % (1L << 31);
        return (int) (lcg / 65536 % n);
    }

    /** Does by single calls what drift(n) does by draws. */
    private static void driftByHand(BellSuitors x, int n) {
        int suitors = x.told(2);
        for (int i = 0; i < n; i++) {
            int d = draw(8);
            if (d == 0) {
                x.call();
            } else if (d == 1) {
                x.wet(x.told(9) == 0);
            } else if (d == 2 && suitors > 0) {
                int r = draw(suitors);
                x.swap(r, draw(suitors));
            }
            x.ring(1);
        }
    }

    private static void drift() {
        promise = 15;
        String[] texts = {BOB, SIX, SHORT, "b1,2,3;m1,4;c7;", "b1,2,3;m1,4;c7;r1;", "b4,5,6,7,8;m1,16,1,16,7;r3;r3;"};
        for (String text : texts) {
            BellSuitors x = Fed.with(text);
            BellSuitors y = Fed.with(text);
            x.seed(2147483647);
            lcg = 2147483647;
            for (int n : new int[] {1, 60, 7}) {
                driftByHand(y, n);
                is("drift(" + n + ")", x.drift(n), y.told(5));
                for (int what = 0; what < 14; what++) {
                    is("told(" + what + ")", x.told(what), y.told(what));
                }
                for (int i = 0; i < 24; i++) {
                    is("suitor", x.suitor(i / 4, i % 4), y.suitor(i / 4, i % 4));
                }
            }
            is("one to undo each", x.told(14), 3);
            is("the seed", x.seed(0), lcg);
        }
        BellSuitors x = Fed.with(BOB);
        is("drift(0)", x.drift(0), OUTSIDE);
        is("drift(61)", x.drift(61), OUTSIDE);
        is("refused draws nothing", x.seed(0), 0);
        is("outside ahead of not", new BellSuitors().drift(61), OUTSIDE);
        is("no tower", new BellSuitors().drift(60), NOT);
    }

    private static void undo() {
        promise = 16;
        BellSuitors x = Fed.with(BOB);
        x.ring(9);
        x.call();
        x.swap(0, 1);
        x.wet(true);
        int[] ahead = everythingTold(x);
        int tired = x.suitor(2, 2);
        x.stand();
        x.ring(201);
        x.call();
        x.call();
        x.ring(20);
        x.forgive(x.suitor(0, 3) == 1 ? 0 : 2);
        x.drift(9);
        int seed = x.seed(1);
        for (int left = x.told(14) - 1; left >= 4; left--) {
            is("undo()", x.undo(), left);
        }
        all("as ahead", everythingTold(x), ahead);
        is("tired", x.suitor(2, 2), tired);
        is("the seed stays", x.seed(0), 1);
        is("it was drawn", seed == 0 ? 1 : 0, 0);
        is("undo()", x.undo(), 3);
        is("not wet", x.told(9), 0);
        is("undo()", x.undo(), 2);
        is("suitor(0, 1)", x.suitor(0, 1), 0);
        is("undo()", x.undo(), 1);
        is("told(8)", x.told(8), 0);
        is("undo()", x.undo(), 0);
        is("told(5)", x.told(5), 1234);
        is("told(6)", x.told(6), 0);
        is("undo()", x.undo(), NOT);
        undoSixteen();
    }

    private static void undoSixteen() {
        BellSuitors x = Fed.with(BOB);
        for (int i = 0; i < 20; i++) {
            x.ring(1);
            is("told(14)", x.told(14), Math.min(16, i + 1));
        }
        x.hear(0, 2134);
        x.write(0, 0);
        for (int left = 15; left >= 0; left--) {
            is("undo()", x.undo(), left);
        }
        is("undo()", x.undo(), NOT);
        is("the oldest are lost", x.told(4), 4);
        is("told(5)", x.told(5), 4321);
        is("what is heard stays", x.told(11), 1);
        is("the book stays", x.told(13), 1);
    }

    private static void rowAt() {
        promise = 17;
        BellSuitors x = Fed.with(BOB);
        is("rowAt(0)", x.rowAt(0), 1234);
        is("rowAt(8)", x.rowAt(8), 1342);
        is("rowAt(500)", x.rowAt(500), 3241);
        is("rowAt(501)", x.rowAt(501), OUTSIDE);
        is("rowAt(-1)", x.rowAt(-1), OUTSIDE);
        x.ring(7);
        x.call();
        is("the call in its place", x.rowAt(1), 3124);
        is("no more called", x.rowAt(2), 1342);
        is("nothing changes", x.told(5), 1324);
        is("nothing changes", x.told(8), 1);
        is("ring(2)", x.ring(2), 1342);
        is("outside ahead of not", new BellSuitors().rowAt(501), OUTSIDE);
        is("no tower", new BellSuitors().rowAt(500), NOT);
    }

    private static void placeAt() {
        promise = 18;
        BellSuitors x = Fed.with(BOB);
        for (int n = 0; n <= 30; n++) {
            String row = Integer.toString(x.rowAt(n));
            for (int b = 0; b < 4; b++) {
                is("placeAt(" + b + ", " + n + ")", x.placeAt(b, n), row.indexOf('1' + b));
            }
        }
        is("placeAt(0, 500)", x.placeAt(0, 500), 3);
        is("placeAt(4, 0)", x.placeAt(4, 0), UNKNOWN);
        is("placeAt(-1, 0)", x.placeAt(-1, 0), UNKNOWN);
        is("placeAt(0, 501)", x.placeAt(0, 501), OUTSIDE);
        is("placeAt(0, -1)", x.placeAt(0, -1), OUTSIDE);
        is("unknown ahead of outside", x.placeAt(4, 501), UNKNOWN);
    }

    private static void round() {
        promise = 19;
        BellSuitors x = Fed.with(BOB);
        is("round()", x.round(), 24);
        x.ring(5);
        is("round()", x.round(), 19);
        BellSuitors y = Fed.with("b1,1,1;c1;");
        is("all stay", y.round(), 1);
        y.call();
        is("called away", y.round(), NONE);
        y.ring(1);
        is("never", y.round(), NONE);
        y.call();
        is("called home", y.round(), 1);
        is("no tower", new BellSuitors().round(), NOT);
        is("the longest", Fed.with("b1,1,1,1,1;m16,1,16,1,16,1,16,1,16,1,16,7;").round() > 0 ? 1 : 0, 1);
    }

    private static void trueFor() {
        promise = 20;
        BellSuitors x = Fed.with(BOB);
        is("trueFor()", x.trueFor(), 23);
        x.ring(5);
        is("from another row", x.trueFor(), 23);
        is("six bells", Fed.with(SIX).trueFor(), 59);
        BellSuitors y = Fed.with("b1,1,1;c1;");
        is("all stay", y.trueFor(), 0);
        y.call();
        is("one, then like it", y.trueFor(), 1);
        is("a row like a later one than now", Fed.with("b1,1,1;m1,4,4,4;").trueFor(), 2);
        is("no tower", new BellSuitors().trueFor(), NOT);
    }

    private static void touch() {
        promise = 21;
        BellSuitors x = Fed.with("b1,1,1;m7;c7;");
        is("plain or called, both come round", x.touch(1, 0), 2);
        is("the first", x.touch(1, 1), 0);
        is("rounds in the middle", x.touch(2, 0), 0);
        is("none", x.touch(2, 1), NONE);
        x = Fed.with("b1,1,1;m1;c4;");
        x.ring(1);
        x.call();
        is("touch(2, 0)", x.touch(2, 0), 2);
        is("touch(2, 1)", x.touch(2, 1), 0);
        is("touch(3, 0)", x.touch(3, 0), 0);
        is("touch(4, 0)", x.touch(4, 0), 0);
        is("touch(6, 0)", x.touch(6, 0), 2);
        is("touch(6, 1)", x.touch(6, 1), 21);
        is("touch(8, 0)", x.touch(8, 0), 0);
        is("nothing changes", x.told(5), 132);
        is("nothing changes", x.told(8), 1);
        x = Fed.with("b1,1,1;m7;c1;");
        is("touch(2, 0)", x.touch(2, 0), 1);
        is("touch(2, 1)", x.touch(2, 1), 3);
        x = Fed.with("b1,1,1;m1,1,4,4;c7;");
        is("rounds in the middle of a lead", x.touch(1, 0), 0);
        x = Fed.with("b1,1,1,1;m12,3,12,12,12,3;c15;");
        is("alike in the middle of a lead", x.touch(1, 0), 0);
        x = Fed.with("b1,1,1,1;m12,3,12,3;c15;");
        is("a lead comes round", x.touch(1, 0), 1);
        is("a lead comes round", x.touch(1, 1), 0);
        is("two are alike", x.touch(2, 0), 0);
        x = Fed.with(BOB);
        is("touch(3, 0)", x.touch(3, 0), 2);
        is("touch(3, 1)", x.touch(3, 1), 0);
        is("touch(6, 0)", x.touch(6, 0), 0);
        x.trueFor();
        is("behind trueFor()", x.touch(3, 0), 2);
        x.gap(0, 500);
        is("behind gap()", x.touch(3, 0), 2);
        is("gap() behind touch()", x.gap(0, 500), 6);
        is("trueFor() behind gap()", x.trueFor(), 23);
        x = Fed.with(SIX);
        is("touch(5, 0)", x.touch(5, 0), 1);
        is("touch(8, 0)", x.touch(8, 0), 2);
        is("touch(8, 1)", x.touch(8, 1), 85);
        is("touch(0, 0)", x.touch(0, 0), OUTSIDE);
        is("touch(9, 0)", x.touch(9, 0), OUTSIDE);
        is("touch(1, 2)", x.touch(1, 2), OUTSIDE);
        is("touch(1, -1)", x.touch(1, -1), OUTSIDE);
        is("outside ahead of not", new BellSuitors().touch(9, 0), OUTSIDE);
        is("no tower", new BellSuitors().touch(8, 1), NOT);
    }

    private static void ropes() {
        promise = 22;
        BellSuitors x = Fed.with("b20,1,10;r1;r20;r9;");
        x.swap(0, 1);
        is("how much", x.ropes(-1), 1);
        is("ropes(0)", x.ropes(0), 1);
        is("ropes(1)", x.ropes(1), 0);
        is("ropes(2)", x.ropes(2), 2);
        is("ropes(3)", x.ropes(3), UNKNOWN);
        is("ropes(-2)", x.ropes(-2), UNKNOWN);
        x = Fed.with("b20,20,1;r1;r1;");
        is("the bells of as many", x.ropes(-1), 38);
        is("of like ones the first", x.ropes(0), 0);
        is("of like ones the first", x.ropes(1), 1);
        is("ropes(2)", x.ropes(2), UNKNOWN);
        x = Fed.with(SIX);
        is("six", x.ropes(-1), 0);
        int[] bells = {3, 0, 4, 1, 5, 2};
        for (int r = 0; r < 6; r++) {
            is("six, ropes(" + r + ")", x.ropes(r), bells[r]);
        }
        is("no suitors", Fed.with("b1,1,1;").ropes(-1), 0);
    }

    private static void last() {
        promise = 23;
        BellSuitors x = Fed.with(BOB);
        is("last(0, 8)", x.last(0, 8), 2);
        is("the row now does not count", x.last(3, 1), 0);
        is("last(2, 1)", x.last(2, 1), 1);
        is("last(1, 500)", x.last(1, 500), 126);
        int together = x.last(0, 500) + x.last(1, 500) + x.last(2, 500) + x.last(3, 500);
        is("together", together, 500);
        x.call();
        is("called", x.last(3, 1), 1);
        is("last(4, 1)", x.last(4, 1), UNKNOWN);
        is("last(0, 0)", x.last(0, 0), OUTSIDE);
        is("last(0, 501)", x.last(0, 501), OUTSIDE);
        is("unknown ahead of outside", x.last(-1, 0), UNKNOWN);
    }

    private static void nextOut() {
        promise = 24;
        BellSuitors x = Fed.with(SHORT);
        is("nextOut()", x.nextOut(), 1);
        x.call();
        is("called", x.nextOut(), 2);
        x.undo();
        x.swap(1, 2);
        is("by ropes", x.nextOut(), 2);
        is("nothing changes", x.told(6), 0);
        is("nothing changes", x.told(5), 123);
        x.undo();
        x.ring(1);
        is("of those not out", x.nextOut(), 2);
        x.ring(1);
        is("one alone", x.nextOut(), NONE);
        is("behind a whole lead", Fed.with(BOB).nextOut(), 1);
        is("never", Fed.with("b1,1,1;r1;r1;").nextOut(), NONE);
        is("one suitor", Fed.with("b1,1,1;m1;r1;").nextOut(), NONE);
        is("no suitor", Fed.with("b1,1,1;m1;").nextOut(), NONE);
        is("no tower", new BellSuitors().nextOut(), NONE);
    }

    private static void change() {
        promise = 25;
        BellSuitors x = Fed.with(BOB);
        is("all change", x.change(1234, 2143), 0);
        is("the middle", x.change(2143, 2413), 9);
        is("none", x.change(4321, 4321), 15);
        is("ends apart", x.change(1234, 4231), NONE);
        is("three around", x.change(1234, 2314), NONE);
        is("four around", x.change(1234, 2341), NONE);
        int[] none = {0, 123, 12345, 1233, 1235, 1230, -1234, 1111, Integer.MAX_VALUE, Integer.MIN_VALUE};
        for (int row : none) {
            is("change(" + row + ", 1234)", x.change(row, 1234), OUTSIDE);
            is("change(1234, " + row + ")", x.change(1234, row), OUTSIDE);
        }
        is("six", Fed.with(SIX).change(123456, 213465), 12);
        is("no tower", new BellSuitors().change(123, 123), OUTSIDE);
        is("no tower", new BellSuitors().change(0, 0), OUTSIDE);
    }

    private static void follow() {
        promise = 26;
        is("three", Fed.with("b1,1,1;").follow(), 2);
        is("four", Fed.with("b1,1,1,1;").follow(), 4);
        is("five", Fed.with("b1,1,1,1,1;").follow(), 7);
        is("six", Fed.with("b1,1,1,1,1,1;").follow(), 12);
        is("no tower", new BellSuitors().follow(), NOT);
    }

    private static void gap() {
        promise = 27;
        BellSuitors x = Fed.with(BOB);
        is("gap(2, 1)", x.gap(2, 1), 2);
        is("gap(0, 8)", x.gap(0, 8), 6);
        is("gap(0, 500)", x.gap(0, 500), 6);
        is("all stay", Fed.with("b1,1,1;").gap(0, 500), 1);
        BellSuitors y = Fed.with("b1,1,1;m1;");
        is("the bells that change leave nothing", y.gap(1, 9), 1);
        is("the bell that stays", y.gap(0, 1), 2);
        is("six", Fed.with(SIX).gap(0, 500), 30);
        is("six", Fed.with(SIX).gap(5, 60), 50);
        is("gap(4, 1)", x.gap(4, 1), UNKNOWN);
        is("gap(0, 0)", x.gap(0, 0), OUTSIDE);
        is("gap(0, 501)", x.gap(0, 501), OUTSIDE);
        is("unknown ahead of outside", x.gap(4, 0), UNKNOWN);
    }

    private static void dry() {
        promise = 28;
        BellSuitors x = new BellSuitors();
        is("dry(0, 0)", x.dry(0, 0), 1000000000);
        is("dry(1, 0)", x.dry(1, 0), 0);
        is("dry(60, 100)", x.dry(60, 100), 1000000000);
        is("dry(3, 90)", x.dry(3, 90), 729000000);
        is("dry(6, 33)", x.dry(6, 33), 1291467);
        is("cut each evening", x.dry(11, 33), 5053);
        is("dry(60, 50)", x.dry(60, 50), 0);
        is("dry(-1, 50)", x.dry(-1, 50), OUTSIDE);
        is("dry(61, 50)", x.dry(61, 50), OUTSIDE);
        is("dry(1, -1)", x.dry(1, -1), OUTSIDE);
        is("dry(1, 101)", x.dry(1, 101), OUTSIDE);
    }

    private static void hear() {
        promise = 29;
        BellSuitors x = Fed.with(BOB);
        x.ring(3);
        is("hear(0, 1243)", x.hear(0, 1243), 1);
        is("the third is late", x.told(12), 4);
        is("hear(1, 2143)", x.hear(1, 2143), 2);
        is("last, it is heard as it is", x.told(12), 4);
        is("hear(8, 1432)", x.hear(8, 1432), 3);
        is("all that fits", x.told(12), 4);
        is("hear(500, 3241)", x.hear(500, 3241), 4);
        is("none fits", x.told(12), 0);
        is("hear(0, 1234)", x.hear(0, 1234), 5);
        is("hear(0, 1234)", x.hear(0, 1234), 6);
        is("the seventh", x.hear(0, 1234), FULL);
        is("outside ahead of full", x.hear(0, 1233), OUTSIDE);
        is("hear(-1, 1234)", x.hear(-1, 1234), OUTSIDE);
        is("hear(501, 1234)", x.hear(501, 1234), OUTSIDE);
        is("hear(0, 123)", x.hear(0, 123), OUTSIDE);
        is("hear(0, 12345)", x.hear(0, 12345), OUTSIDE);
        is("told(11)", x.told(11), 6);
        is("nothing of it can be undone", x.told(14), 1);
        is("no tower", new BellSuitors().hear(0, 0), OUTSIDE);
        is("as it is: the tenor", heardAs(1234), 8);
    }

    private static int heardAs(int row) {
        BellSuitors x = Fed.with(BOB);
        x.hear(0, row);
        return x.told(12);
    }

    private static void listen() {
        promise = 30;
        BellSuitors x = Fed.with(BOB);
        is("all may be late", x.listen(), 0);
        x.ring(5);
        is("from rounds on", x.listen(), 0);
        x.hear(0, 2134);
        is("one is left", x.listen(), NONE);
        x.hear(0, 1234);
        is("none is left", x.listen(), NONE);
        x.tear();
        is("all again", x.listen(), 0);
        is("no tower", new BellSuitors().listen(), NOT);
    }

    private static void write() {
        promise = 31;
        BellSuitors x = Fed.with(BOB);
        for (int i = 1; i <= 15; i++) {
            is("write(3, 3)", x.write(3, 3), i);
        }
        is("the sixteenth", x.write(0, 0), FULL);
        is("unknown ahead of full", x.write(4, 0), UNKNOWN);
        is("write(0, 4)", x.write(0, 4), UNKNOWN);
        is("write(-1, 0)", x.write(-1, 0), UNKNOWN);
        is("write(0, -1)", x.write(0, -1), UNKNOWN);
        is("told(13)", x.told(13), 15);
    }

    private static void tear() {
        promise = 32;
        BellSuitors x = Fed.with(BOB);
        x.hear(0, 2134);
        x.hear(1, 1243);
        x.write(0, 1);
        is("tear()", x.tear(), 3);
        is("told(11)", x.told(11), 0);
        is("told(12)", x.told(12), 15);
        is("told(13)", x.told(13), 0);
        is("tear()", x.tear(), 0);
        is("write(0, 0)", x.write(0, 0), 1);
    }

    private static void judge() {
        promise = 33;
        BellSuitors x = Fed.with(BOB);
        is("empty", x.judge(), NONE);
        x.write(0, 0);
        x.write(1, 1);
        is("all are so", x.judge(), NONE);
        x.write(1, 0);
        x.write(2, 0);
        is("the first that is otherwise", x.judge(), 2);
        x.ring(1);
        is("now", x.judge(), 0);
        x.stand();
        is("again", x.judge(), 2);
        x.ring(1);
        x.tear();
        is("torn entries are not judged", x.judge(), NONE);
        x.write(0, 1);
        is("nor those behind the last", x.judge(), NONE);
        BellSuitors y = Fed.with(BOB);
        y.ring(1);
        is("empty, not in rounds", y.judge(), NONE);
    }

    private static void seed() {
        promise = 34;
        BellSuitors x = new BellSuitors();
        is("seed(2147483647)", x.seed(2147483647), 0);
        is("seed(-1)", x.seed(-1), OUTSIDE);
        is("seed(min)", x.seed(Integer.MIN_VALUE), OUTSIDE);
        is("seed(0)", x.seed(0), 2147483647);
        Fed.tell(x, BOB);
        x.drift(1);
        is("drawn once", x.seed(7), 12345);
    }

    private static void keep() {
        promise = 35;
        BellSuitors x = Fed.with(BOB);
        x.ring(9);
        is("keep(0)", x.keep(0), 1);
        is("nothing can be undone", x.undo(), NOT);
        is("told(14)", x.told(14), 0);
        is("keep(1)", x.keep(1), 1);
        is("keep(2)", x.keep(2), UNKNOWN);
        is("keep(-1)", x.keep(-1), UNKNOWN);
        x.ring(1);
        is("refused, all can be undone", x.keep(2), UNKNOWN);
        is("undo()", x.undo(), 0);
        BellSuitors y = new BellSuitors();
        y.seed(5);
        is("without a tower", y.keep(0), 1);
        y.seed(6);
        is("without a tower", y.goBack(0), 1);
        is("the seed", y.seed(0), 5);
    }

    private static void goBack() {
        promise = 36;
        BellSuitors x = Fed.with(BOB);
        is("not kept", x.goBack(0), NOT);
        is("goBack(2)", x.goBack(2), UNKNOWN);
        is("goBack(-1)", x.goBack(-1), UNKNOWN);
        x.seed(5);
        x.wet(true);
        x.ring(9);
        x.swap(0, 2);
        x.call();
        x.keep(0);
        int[] ahead = everythingTold(x);
        int tired = x.suitor(2, 2);
        x.stand();
        x.drift(30);
        x.keep(1);
        int[] behind = everythingTold(x);
        x.ring(1);
        x.feed(98);
        is("goBack(0)", x.goBack(0), 1);
        ahead[3] = 1;
        all("as it was", everythingTold(x), ahead);
        is("suitor(0, 1)", x.suitor(0, 1), 2);
        is("suitor(2, 2)", x.suitor(2, 2), tired);
        is("undo()", x.undo(), NOT);
        is("the seed", x.seed(6), 5);
        x.hear(0, 2134);
        x.write(0, 0);
        x.ring(50);
        is("again", x.goBack(0), 1);
        is("told(5)", x.told(5), ahead[5]);
        is("what is heard stays", x.told(11), 1);
        is("the book stays", x.told(13), 1);
        x.tear();
        is("the other", x.goBack(1), 1);
        behind[3] = 1;
        all("as it was", everythingTold(x), behind);
    }
}
