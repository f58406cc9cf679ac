import java.lang.management.ManagementFactory;

/** All calls of a run live in one room: what objects take is bounded, and calls that throw nothing take nothing. */
public final class RoomTest {
    private static final int OBJECT_BYTES_MOST = 24000;
    private static final int CALLS_BYTES_MOST = 4000;
    private static final String TEXT =
        "months 8;weigh 1 3;home;sale 0 5;sale 1 50;sale 2 5;home;sale 0 7;sale 4 9;home;sale 3 7;sale 7 5;";
    private static final Checks CHECKS = new Checks();

    public static void main(String[] args) {
        for (int warm = 0; warm < 200; warm++) {
            useAll(new RepeatIndex());
        }
        long before = taken();
        RepeatIndex x = new RepeatIndex();
        long made = taken();
        useAll(x);
        long used = taken();
        System.out.println("an object: " + (made - before) + " bytes; its calls: " + (used - made) + " bytes");
        CHECKS.due("an object is small", 1, made - before <= OBJECT_BYTES_MOST);
        CHECKS.due("calls make no objects", 1, used - made <= CALLS_BYTES_MOST);
        CHECKS.finish();
    }

    private static long taken() {
        return ((com.sun.management.ThreadMXBean) ManagementFactory.getThreadMXBean()).getCurrentThreadAllocatedBytes();
    }

    private static long useAll(RepeatIndex x) {
        long sum = 0;
        for (int turn = 0; turn < 18; turn++) {
            for (int from = 0; from < TEXT.length(); from += 20) {
                sum += feedTwenty(x, from);
            }
            sum += x.end(TEXT.length()) ? 1 : 0;
            sum += x.text() + x.fault() + x.now(4) + x.home() + x.sale(3, 1, 5) + x.drop(0, 0) + x.shift(0, 9);
            sum += x.weigh(2, 2) + x.pair(0, 3) + x.part(3) + x.index(4, true) + x.off(1, false) + x.error(false);
            sum += x.worst() + x.without(0, 4, true) + x.revised(3, 2, 50, 4, false) + x.worth(3, 3) + x.undo();
        }
        return sum;
    }

    /** Without an array of its own, so that only the class's own objects are counted. */
    private static int feedTwenty(RepeatIndex x, int from) {
        return x.feed(four(from), four(from + 4), four(from + 8), four(from + 12), four(from + 16));
    }

    private static int four(int from) {
        int number = 0;
        for (int place = from; place < from + 4; place++) {
            number = number << 8 | (place < TEXT.length() ? TEXT.charAt(place) : 0);
        }
        return number;
    }
}
