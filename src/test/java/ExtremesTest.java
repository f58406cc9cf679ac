import java.util.Random;

/** Books with the most sales, the greatest weights and levels at both ends: there numbers are the longest. */
public final class ExtremesTest {
    private static final int BOOKS = 3000;
    private static final Random RANDOM = new Random(18);
    private static final Checks CHECKS = new Checks();

    public static void main(String[] args) {
        long longest = 0;
        for (int count = 0; count < BOOKS && CHECKS.allGood(); count++) {
            longest = Math.max(longest, compare());
        }
        System.out.println("greatest lower number: " + longest);
        CHECKS.finish();
    }

    private static long compare() {
        RepeatIndex x = new RepeatIndex();
        Model m = new Model();
        String text = fullText();
        Checks.feed(x, text);
        m.tape.append(text);
        CHECKS.due("text " + text, m.text(), x.text());
        long longest = 0;
        for (int month = 0; month < 8; month++) {
            CHECKS.due("index of " + text, m.index(month, false), x.index(month, false));
            CHECKS.due("index of " + text, m.index(month, true), x.index(month, true));
            longest = Math.max(longest, x.index(month, true));
        }
        for (int pair = 0; pair < x.now(3); pair++) {
            CHECKS.due("off of " + text, m.off(pair, false), x.off(pair, false));
            CHECKS.due("off of " + text, m.off(pair, true), x.off(pair, true));
        }
        CHECKS.due("error of " + text, m.error(false), x.error(false));
        CHECKS.due("error of " + text, m.error(true), x.error(true));
        CHECKS.due("worst of " + text, m.worst(), x.worst());
        compareRevised(x, m);
        return longest;
    }

    private static void compareRevised(RepeatIndex x, Model m) {
        int home = RANDOM.nextInt(m.homes.size());
        int month = RANDOM.nextInt(8);
        int level = end();
        int at = RANDOM.nextInt(8);
        CHECKS.due("revised", m.revised(home, month, level, at, false),
            Checks.answerOf(() -> x.revised(home, month, level, at, false)));
        CHECKS.due("revised under", m.revised(home, month, level, at, true),
            Checks.answerOf(() -> x.revised(home, month, level, at, true)));
        CHECKS.due("without", m.without(home, at, false), x.without(home, at, false));
        CHECKS.due("worth", m.worth(home, at), x.worth(home, at));
    }

    private static int end() {
        int kind = RANDOM.nextInt(3);
        return kind == 0 ? 999 - RANDOM.nextInt(5) : kind == 1 ? RANDOM.nextInt(5) : RANDOM.nextInt(1000);
    }

    private static String fullText() {
        StringBuilder text = new StringBuilder("months 8;weigh 1 3;");
        if (RANDOM.nextBoolean()) {
            text.append("weigh 2 ").append(2 + RANDOM.nextInt(2)).append(";");
        }
        int homes = 3 + RANDOM.nextInt(4);
        boolean[][] sold = new boolean[homes][8];
        for (int sales = 0; sales < 18;) {
            int home = RANDOM.nextInt(homes);
            int month = RANDOM.nextInt(8);
            if (!sold[home][month]) {
                sold[home][month] = true;
                sales++;
            }
        }
        for (boolean[] home : sold) {
            text.append("home;");
            for (int month = 0; month < 8; month++) {
                if (home[month]) {
                    text.append("sale ").append(month).append(' ').append(end()).append(';');
                }
            }
        }
        return text.toString();
    }
}
