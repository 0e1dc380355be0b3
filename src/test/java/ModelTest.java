import java.util.Random;

/** Long runs of calls, by a told seed, on the class and on the slow model beside it: every answer is the same. */
public final class ModelTest {
    private static final int RUNS = 1500;
    private static final int CALLS = 512;
    private static final int TEXTS = 60000;

    private static final String[] METHODS = {
        "m0,9,0,9,0,9,0,3", "m0,9,0,9,0,9,0,9", "m12,3,9,6,15,0", "m1,4", "m4,1,4,1,4,1", "m7", "m0,33,0,33,0,33,0,33,0,33,0,3",
        "m16,1,16,1,16,1,16,1,16,7", "m0,33,12,33,0,33,12,33,0,33,12,3", "m33", "m0,33", "m1,16", "m9,0", ""};

    private final Random random;
    private final Due due;
    private final BellSuitors x = new BellSuitors();
    private final SlowModel y = new SlowModel();
    private final StringBuilder log = new StringBuilder();
    private int calls = 0;

    private ModelTest(long seed, Due due) {
        this.random = new Random(seed);
        this.due = due;
    }

    public static void main(String[] args) {
        Due due = new Due();
        for (int run = 0; run < RUNS && due.allRight(); run++) {
            new ModelTest(run, due).run();
        }
        ModelTest texts = new ModelTest(77, due);
        for (int i = 0; i < TEXTS && due.allRight(); i++) {
            texts.readOneText();
        }
        due.end();
    }

    private void is(String call, int got, int want) {
        calls++;
        log.append(call).append(" = ").append(got).append('\n');
        due.is(call, got, want);
        if (got != want) {
            System.out.println(log);
        }
    }

    private void run() {
        if (random.nextInt(4) > 0) {
            tell();
        }
        while (calls < CALLS && due.allRight()) {
            oneCall();
        }
    }

    private void readOneText() {
        log.setLength(0);
        log.append("text: ").append("see the feeds").append('\n');
        tell();
        is("fault()", x.fault(), y.fault());
        for (int what = 0; what <= 14; what++) {
            is("told(" + what + ")", x.told(what), y.told(what));
        }
        for (int i = -1; i <= 12; i++) {
            is("method(" + i + ")", x.method(i), y.method(i));
        }
    }

    private int below(int n) {
        return random.nextInt(n);
    }

    /** Mostly a number from low to high, at times one beside the bounds or far away. */
    private int about(int low, int high) {
        switch (below(24)) {
            case 0: return low - 1;
            case 1: return high + 1;
            case 2: return low;
            case 3: return high;
            case 4: return random.nextInt();
            default: return low + below(high - low + 1);
        }
    }

    private void tell() {
        String text = below(3) == 0 ? oddText() : goodText();
        for (int i = 0; i < text.length(); i++) {
            int letter = text.charAt(i);
            is("feed(" + letter + ")", x.feed(letter), y.feed(letter));
        }
        is("tower()", x.tower(), y.tower());
    }

    private String blanks() {
        return " ".repeat(below(12) == 0 ? 1 + below(2) : 0);
    }

    private String goodText() {
        int bells = 3 + below(4);
        StringBuilder s = new StringBuilder(blanks()).append('b');
        for (int b = 0; b < bells; b++) {
            s.append(b == 0 ? "" : ",").append(blanks()).append(1 + below(20)).append(blanks());
        }
        s.append(';').append(blanks());
        String method = below(2) == 0 ? METHODS[below(METHODS.length)] : changes(bells, 1 + below(12));
        String call = below(4) == 0 ? "" : "c" + anyChange(bells) + ";";
        boolean callFirst = below(2) == 0;
        s.append(callFirst ? call : "");
        s.append(method).append(method.isEmpty() ? "" : ";");
        for (int r = below(bells + 1) + (below(20) == 0 ? 1 : 0); r > 0; r--) {
            s.append(blanks()).append('r').append(blanks()).append(1 + below(20)).append(blanks()).append(';');
        }
        return s.append(callFirst ? "" : call).append(blanks()).toString();
    }

    private String changes(int bells, int count) {
        StringBuilder s = new StringBuilder("m");
        for (int i = 0; i < count; i++) {
            s.append(i == 0 ? "" : ",").append(anyChange(bells));
        }
        return s.toString();
    }

    private int anyChange(int bells) {
        int set = 0;
        for (int p = 0; p < bells; p++) {
            if (p + 1 < bells && below(3) > 0) {
                p++;
            } else {
                set |= 1 << p;
            }
        }
        return set;
    }

    /** A good text with a few letters changed, put in, or taken out. */
    private String oddText() {
        StringBuilder s = new StringBuilder(goodText());
        String letters = "bmrc,;0123456789 0120x\t\u00b2\u00ff";
        for (int i = below(4); i > 0; i--) {
            int at = below(s.length() + 1);
            char letter = letters.charAt(below(letters.length()));
            int how = below(4);
            if (how == 0 && at < s.length()) {
                s.deleteCharAt(at);
            } else if (how == 1 && at < s.length()) {
                s.setCharAt(at, letter);
            } else if (how == 2) {
                s.insert(at, letter);
            } else {
                s.setLength(at);
            }
        }
        return s.toString();
    }

    private int bells() {
        return Math.max(3, y.told(0));
    }

    private int suitors() {
        return Math.max(1, y.told(2));
    }

    private int anyRow() {
        if (below(10) == 0) {
            return about(0, 7000);
        }
        int bells = bells();
        if (below(3) == 0 && y.told(0) > 0) {
            return y.rowAt(below(30));
        }
        char[] c = "123456".substring(0, bells).toCharArray();
        for (int i = below(3); i >= 0; i--) {
            int p = below(bells - 1);
            char k = c[p];
            c[p] = c[p + 1];
            c[p + 1] = k;
        }
        return Integer.parseInt(new String(c));
    }

    /** A row that is heard with one bell late, so that several can fit. */
    private int lateRow(int n) {
        if (y.told(0) == 0 || n < 0 || n > 500) {
            return anyRow();
        }
        BellSuitors plain = new BellSuitors();
        StringBuilder s = new StringBuilder("b1").append(",1".repeat(y.told(0) - 1)).append(";m");
        for (int i = 0; i < y.told(1); i++) {
            s.append(i == 0 ? "" : ",").append(y.method(i));
        }
        Fed.tell(plain, s.append(';').toString());
        char[] c = Integer.toString(plain.rowAt(n)).toCharArray();
        int p = plain.placeAt(1, n);
        if (p + 1 < c.length) {
            char k = c[p];
            c[p] = c[p + 1];
            c[p + 1] = k;
        }
        return Integer.parseInt(new String(c));
    }

    private void oneCall() {
        int kind = below(100);
        if (kind < 35) {
            doOne();
        } else if (kind < 60) {
            tryOne();
        } else if (kind < 75) {
            hearOne();
        } else if (kind < 98) {
            askOne();
        } else if (kind == 98 && below(6) == 0 && calls < 400) {
            tell();
        } else if (kind == 99) {
            int letter = about(0, 255);
            is("feed(" + letter + ")", x.feed(letter), y.feed(letter));
        }
    }

    private void doOne() {
        int r = about(0, suitors() - 1);
        int q = about(0, suitors() - 1);
        int n = about(1, 200);
        switch (below(12)) {
            case 0: case 1: case 2: is("ring(" + n + ")", x.ring(n), y.ring(n)); break;
            case 3: is("ring(1)", x.ring(1), y.ring(1)); break;
            case 4: is("call()", x.call(), y.call()); break;
            case 5: is("swap(" + r + ", " + q + ")", x.swap(r, q), y.swap(r, q)); break;
            case 6: if (below(3) == 0) is("stand()", x.stand(), y.stand()); break;
            case 7: is("wet(" + (r > 0) + ")", x.wet(r > 0), y.wet(r > 0)); break;
            case 8: is("forgive(" + r + ")", x.forgive(r), y.forgive(r)); break;
            case 9: n = about(1, 60); is("drift(" + n + ")", x.drift(n), y.drift(n)); break;
            case 10: is("undo()", x.undo(), y.undo()); break;
            default: imageOrSeed(); break;
        }
    }

    private void imageOrSeed() {
        int i = about(0, 1);
        int v = below(2) == 0 ? random.nextInt() : below(1000);
        switch (below(4)) {
            case 0: if (below(3) == 0) is("keep(" + i + ")", x.keep(i), y.keep(i)); break;
            case 1: if (below(3) == 0) is("goBack(" + i + ")", x.goBack(i), y.goBack(i)); break;
            default: is("seed(" + v + ")", x.seed(v), y.seed(v)); break;
        }
    }

    private void tryOne() {
        int b = about(0, bells() - 1);
        int n = about(1, 500);
        int what = about(0, 1);
        switch (below(13)) {
            case 0: n = about(0, 500); is("rowAt(" + n + ")", x.rowAt(n), y.rowAt(n)); break;
            case 1: n = about(0, 500); is("placeAt(" + b + ", " + n + ")", x.placeAt(b, n), y.placeAt(b, n)); break;
            case 2: is("round()", x.round(), y.round()); break;
            case 3: is("trueFor()", x.trueFor(), y.trueFor()); break;
            case 4: n = about(1, 8); is("touch(" + n + ", " + what + ")", x.touch(n, what), y.touch(n, what)); break;
            case 5: n = about(-1, suitors() - 1); is("ropes(" + n + ")", x.ropes(n), y.ropes(n)); break;
            case 6: is("last(" + b + ", " + n + ")", x.last(b, n), y.last(b, n)); break;
            case 7: case 8: is("nextOut()", x.nextOut(), y.nextOut()); break;
            case 9: is("follow()", x.follow(), y.follow()); break;
            case 10: n = about(1, below(2) == 0 ? 40 : 500); is("gap(" + b + ", " + n + ")", x.gap(b, n), y.gap(b, n)); break;
            case 11: n = about(0, 60); int q = about(0, 100); is("dry(" + n + ", " + q + ")", x.dry(n, q), y.dry(n, q)); break;
            default:
                int row = anyRow();
                int other = anyRow();
                is("change(" + row + ", " + other + ")", x.change(row, other), y.change(row, other));
                break;
        }
    }

    private void hearOne() {
        int b = about(0, bells() - 1);
        int p = below(2) == 0 ? y.bell(b, 1) : about(0, bells() - 1);
        switch (below(8)) {
            case 0: case 1: {
                int n = about(0, 500);
                int row = below(3) > 0 ? lateRow(n) : anyRow();
                is("hear(" + n + ", " + row + ")", x.hear(n, row), y.hear(n, row));
                break;
            }
            case 2: is("listen()", x.listen(), y.listen()); break;
            case 3: case 4: case 5: is("write(" + b + ", " + p + ")", x.write(b, p), y.write(b, p)); break;
            case 6: if (below(4) == 0) is("tear()", x.tear(), y.tear()); break;
            default: is("judge()", x.judge(), y.judge()); break;
        }
    }

    private void askOne() {
        int what = about(0, 14);
        int b = about(0, bells() - 1);
        int r = about(0, suitors() - 1);
        int i = about(-1, 12);
        switch (below(8)) {
            case 0: is("fault()", x.fault(), y.fault()); break;
            case 1: is("method(" + i + ")", x.method(i), y.method(i)); break;
            case 2: what = about(0, 2); is("bell(" + b + ", " + what + ")", x.bell(b, what), y.bell(b, what)); break;
            case 3: case 4: what = about(0, 3); is("suitor(" + r + ", " + what + ")", x.suitor(r, what), y.suitor(r, what)); break;
            default: is("told(" + what + ")", x.told(what), y.told(what)); break;
        }
    }
}
