import java.lang.management.ManagementFactory;

/** All calls live in one room: once an object is made, its calls make nothing. */
public final class RoomTest {
    private static final int CALLS = 10000;
    private static final long MOST_BYTES = 200000;

    public static void main(String[] args) {
        Due due = new Due();
        BellSuitors x = Fed.with("b20,20,20,1,1,1;m0,33,0,33,0,33,0,33,0,33,0,3;r1;r20;r1;r20;r1;r20;c15;");
        com.sun.management.ThreadMXBean room = (com.sun.management.ThreadMXBean) ManagementFactory.getThreadMXBean();
        long sum = allCalls(x, 0);
        long ahead = room.getCurrentThreadAllocatedBytes();
        for (int i = 0; i < CALLS; i++) {
            sum += allCalls(x, i);
        }
        long made = room.getCurrentThreadAllocatedBytes() - ahead;
        due.is("bytes made: " + made + " (sum " + sum + ")", made < MOST_BYTES ? 1 : 0, 1);
        due.end();
    }

    private static long allCalls(BellSuitors x, int i) {
        long sum = x.feed('b') + x.fault() + x.told(i % 15) + x.method(0) + x.bell(0, 1) + x.suitor(0, 2);
        sum += x.ring(1) + x.call() + x.swap(0, 1) + x.wet(true) + x.forgive(1) + x.drift(2) + x.undo();
        sum += x.rowAt(9) + x.placeAt(0, 9) + x.last(0, 9) + x.nextOut() + x.change(123456, 214365) + x.follow() + x.gap(0, 9) + x.dry(9, 9);
        sum += i % 50 == 0 ? x.round() + x.trueFor() + x.touch(8, 1) + x.ropes(0) + x.stand() : 0;
        sum += x.hear(3, 123456) + x.listen() + x.write(0, 0) + x.judge() + x.tear() + x.seed(i) + x.keep(0) + x.goBack(0);
        return sum + (i % 20 == 0 ? feedAll(x) : 0);
    }

    private static long feedAll(BellSuitors x) {
        String text = "b20,20,20,1,1,1;m0,33,0,33,0,33,0,33,0,33,0,3;r1;r20;r1;r20;r1;r20;c15;";
        x.tower();
        for (int i = 0; i < text.length(); i++) {
            x.feed(text.charAt(i));
        }
        return x.tower();
    }
}
