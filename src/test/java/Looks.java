import java.util.ArrayList;
import java.util.List;

/** Looks at all that can be seen of an object, each within its 512 calls; some looks use the object up. */
final class Looks {
    /** A look for each count of acts undone ahead of it, one at the tape, one at what would be. */
    static final int COUNT = 13;

    private static final int UNDONE_MOST = 10;

    private Looks() { }

    static List<Long> at(RepeatIndex x, int look) {
        List<Long> seen = new ArrayList<>();
        if (look <= UNDONE_MOST) {
            book(x, look, seen);
        } else if (look == UNDONE_MOST + 1) {
            tape(x, seen);
        } else {
            trials(x, seen);
        }
        return seen;
    }

    private static void add(List<Long> seen, Checks.Call call) {
        seen.add(Checks.answerOf(call));
    }

    private static void counts(RepeatIndex x, List<Long> seen) {
        for (int what = 0; what <= 6; what++) {
            seen.add((long) x.now(what));
        }
    }

    private static void levels(RepeatIndex x, List<Long> seen) {
        for (int home = 0; home < 6; home++) {
            for (int month = 0; month < 8; month++) {
                seen.add((long) x.level(home, month));
            }
        }
    }

    private static void weights(RepeatIndex x, List<Long> seen) {
        for (int gap = 1; gap <= 7; gap++) {
            seen.add((long) x.weigh(gap, 0));
        }
    }

    private static void book(RepeatIndex x, int undone, List<Long> seen) {
        seen.add((long) x.fault());
        for (int count = 0; count < undone; count++) {
            seen.add((long) x.undo());
        }
        counts(x, seen);
        levels(x, seen);
        for (int p = 0; p <= x.now(3); p++) {
            int pair = p;
            for (int w = 0; w < 5; w++) {
                int what = w;
                add(seen, () -> x.pair(pair, what));
            }
            add(seen, () -> x.off(pair, false));
            add(seen, () -> x.off(pair, true));
        }
        for (int m = 0; m < 8; m++) {
            int month = m;
            seen.add((long) x.part(month));
            add(seen, () -> x.index(month, false));
            add(seen, () -> x.index(month, true));
            for (int home = 0; home < 6; home++) {
                seen.add((long) x.worth(home, month));
            }
        }
        seen.add(x.error(false));
        seen.add(x.error(true));
        seen.add((long) x.worst());
        weights(x, seen);
    }

    /** Reads what the tape has as a text; of a longer tape its first 500 bytes. */
    private static void tape(RepeatIndex x, List<Long> seen) {
        int length = x.now(6);
        seen.add((long) length);
        x.end(Math.min(length, 500));
        seen.add((long) x.text());
        seen.add((long) x.fault());
        counts(x, seen);
        levels(x, seen);
        weights(x, seen);
    }

    private static void trials(RepeatIndex x, List<Long> seen) {
        for (int h = 0; h < 6; h++) {
            int home = h;
            for (int m = 0; m < 8; m++) {
                int month = m;
                add(seen, () -> x.without(home, month, false));
                add(seen, () -> x.without(home, month, true));
                add(seen, () -> x.revised(home, month, 77, 1, false));
                add(seen, () -> x.revised(home, month, 77, 1, true));
            }
        }
    }
}
