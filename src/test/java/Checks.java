import java.util.NoSuchElementException;

/** What the project's tests share: counting wrong answers, and feeding a text to an object. */
final class Checks {
    /** Stands for the answer of a call that throws NoSuchElementException. */
    static final long THROWS = Long.MIN_VALUE;

    private static final int SHOWN_MOST = 40;
    private static final long MILLIS_MOST = 600_000;

    private int wrong = 0;
    private int asked = 0;
    private String sentence = "";

    interface Call {
        long answer();
    }

    Checks() {
        Thread watch = new Thread(Checks::stopLate);
        watch.setDaemon(true);
        watch.start();
    }

    /** A call that does not end makes its test fail; without this it would make it stand still. */
    private static void stopLate() {
        try {
            Thread.sleep(MILLIS_MOST);
        } catch (InterruptedException e) {
            return;
        }
        System.out.println("a call did not end in " + MILLIS_MOST / 1000 + " seconds");
        Runtime.getRuntime().halt(1);
    }

    static long answerOf(Call call) {
        try {
            return call.answer();
        } catch (NoSuchElementException e) {
            return e.getClass() == NoSuchElementException.class ? THROWS : THROWS + 1;
        }
    }

    /** The words of the document that the checks from here on are of. */
    void sentence(String words) {
        sentence = "\"" + words + "\": ";
    }

    void due(String what, long want, Call call) {
        due(what, want, answerOf(call));
    }

    void due(String what, long want, boolean got) {
        due(what, want, got ? 1 : 0);
    }

    void due(String what, long want, long got) {
        asked++;
        if (got != want) {
            wrong++;
            if (wrong <= SHOWN_MOST) {
                System.out.println(sentence + what + " answered " + told(got) + ", due is " + told(want));
            }
        }
    }

    boolean allGood() {
        return wrong == 0;
    }

    void finish() {
        System.out.println(asked + " answers, " + wrong + " of them wrong");
        if (wrong != 0) {
            System.exit(1);
        }
    }

    private static String told(long answer) {
        return answer == THROWS ? "NoSuchElementException" : Long.toString(answer);
    }

    /** A text on the tape of a new object: what text() and fault() answer; the tape is empty then. */
    void dueText(String text, int want, int fault) {
        RepeatIndex x = new RepeatIndex();
        due("feed of " + text, 1, feed(x, text));
        due("text of " + text, want, x.text());
        due("fault of " + text, fault, x.fault());
        due("tape behind " + text, 0, x.now(6));
    }

    /** A text that is none, by a FAULT of a kind at a place. */
    void dueFault(String text, int place, int fault) {
        dueText(text, -1 - place, fault);
    }

    /** Feeds a text in twenties and cuts the tape behind its last byte. */
    static boolean feed(RepeatIndex x, String text) {
        int had = x.now(6);
        for (int from = 0; from < text.length(); from += 20) {
            int[] numbers = numbersOf(text, from);
            if (x.feed(numbers[0], numbers[1], numbers[2], numbers[3], numbers[4]) == RepeatIndex.NONE) {
                return false;
            }
        }
        return x.end(had + text.length());
    }

    static int[] numbersOf(String text, int from) {
        int[] numbers = new int[5];
        for (int place = 0; place < 20; place++) {
            int sign = from + place < text.length() ? text.charAt(from + place) & 255 : 0;
            numbers[place / 4] = numbers[place / 4] << 8 | sign;
        }
        return numbers;
    }

    static RepeatIndex of(String text) {
        RepeatIndex x = new RepeatIndex();
        if (!feed(x, text) || x.text() < 0) {
            throw new IllegalArgumentException("a test's text is no TEXT: " + text);
        }
        return x;
    }
}
