import java.util.Arrays;

/** What can be read of an object; within the 512 calls that it is promised for. */
final class Probe {
    private static final int SUITORS = 3;
    private final int[] answers = new int[512];
    private int count = 0;

    private Probe() {
    }

    /** All of section 2: ROWS RUNG, the ROW, who is OUT, CALLED, WET, CHANGES of this LEAD; then all ropes; then who is how TIRED. */
    static int[] evening(BellSuitors x) {
        Probe p = new Probe();
        p.readEvening(x);
        return p.all();
    }

    /** What is so now, the seed, all that can be undone, both images and the text; the object is used up by it. */
    static int[] everything(BellSuitors x) {
        Probe p = new Probe();
        p.readNow(x);
        p.add(x.seed(0));
        for (int left = x.told(14); left >= 0; left--) {
            p.add(x.undo());
            p.readEvening(x);
        }
        for (int image = 0; image < 2; image++) {
            p.add(x.goBack(image));
            p.add(x.seed(0));
            p.readEvening(x);
        }
        p.add(x.tower());
        p.add(x.fault());
        return p.all();
    }

    private void add(int answer) {
        answers[count++] = answer;
    }

    private int[] all() {
        return Arrays.copyOf(answers, count);
    }

    private void readNow(BellSuitors x) {
        for (int what = 0; what <= 14; what++) {
            add(x.told(what));
        }
        add(x.fault());
        add(x.judge());
        add(x.method(0));
        add(x.method(-1));
        add(x.bell(0, 0));
        for (int r = 0; r < SUITORS; r++) {
            add(x.suitor(r, 0));
            add(x.suitor(r, 1));
            add(x.suitor(r, 2));
        }
    }

    private void readEvening(BellSuitors x) {
        for (int what : new int[] {4, 5, 6, 8, 9, 10}) {
            add(x.told(what));
        }
        for (int what = 1; what <= 2; what++) {
            for (int r = 0; r < SUITORS; r++) {
                add(x.suitor(r, what));
            }
        }
    }
}
