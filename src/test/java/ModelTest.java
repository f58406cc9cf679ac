import java.util.Random;

/** Long runs of calls, with a fixed seed, each answer against the model's. */
public final class ModelTest {
    private static final int RUNS = 400;
    private static final int CALLS = 512;
    private static final int TEXTS = 20000;

    private final Checks checks = new Checks();
    private final Random random = new Random(20261117);
    private RepeatIndex x;
    private Model m;
    private int calls;

    public static void main(String[] args) {
        ModelTest test = new ModelTest();
        for (int run = 0; run < RUNS && test.checks.allGood(); run++) {
            test.runCalls(run);
        }
        test.runTexts();
        test.checks.finish();
    }

    private void runCalls(int run) {
        x = new RepeatIndex();
        m = new Model();
        calls = 0;
        if (run % 8 != 0) {
            giveText(Texts.good(random));
        }
        while (calls < CALLS - 60 && checks.allGood()) {
            if (random.nextInt(100) == 0) {
                giveText(random.nextInt(3) == 0 ? Texts.good(random) : Texts.spoilt(random));
            } else if (random.nextInt(3) == 0) {
                act();
            } else {
                ask();
            }
        }
    }

    private void runTexts() {
        for (int text = 0; text < TEXTS && checks.allGood(); text++) {
            x = new RepeatIndex();
            m = new Model();
            giveText(Texts.spoilt(random));
            lookAtAll();
        }
    }

    private void lookAtAll() {
        for (int what = 0; what < 7; what++) {
            due("now", m.now(what), x.now(what));
        }
        for (int home = 0; home < 6; home++) {
            for (int month = 0; month < 8; month++) {
                due("level", m.level(home, month), x.level(home, month));
            }
        }
    }

    private void due(String what, long want, long got) {
        calls++;
        checks.due(what, want, got);
    }

    private void giveText(String text) {
        for (int from = 0; from < text.length(); from += 20) {
            StringBuilder twenty = new StringBuilder();
            for (int place = from; place < from + 20; place++) {
                twenty.append(place < text.length() ? text.charAt(place) : (char) 0);
            }
            int[] n = Checks.numbersOf(text, from);
            due("feed", m.feed(twenty.toString()), x.feed(n[0], n[1], n[2], n[3], n[4]));
        }
        due("end", m.end(text.length()) ? 1 : 0, x.end(text.length()) ? 1 : 0);
        due("text " + text, m.text(), x.text());
        due("fault of " + text, m.fault, x.fault());
        due("tape", 0, x.now(6));
    }

    private int home() {
        return random.nextInt(20) == 0 ? odd() : random.nextInt(Math.max(1, m.homes.size()));
    }

    private int month() {
        return random.nextInt(20) == 0 ? odd() : random.nextInt(m.months);
    }

    private int odd() {
        int[] all = {-1, -2, 6, 7, 8, 9, 42, 48, 1000, -1000, Integer.MAX_VALUE, Integer.MIN_VALUE, m.months,
            m.homes.size()};
        return all[random.nextInt(all.length)];
    }

    private int level() {
        int kind = random.nextInt(12);
        return kind == 0 ? odd() : kind == 1 ? 999 : kind == 2 ? 0 : kind < 8 ? random.nextInt(30) : random.nextInt(1000);
    }

    private void act() {
        int a = home();
        int b = month();
        switch (random.nextInt(10)) {
            case 0:
                due("home()", m.home(), x.home());
                break;
            case 1:
                due("drop", m.drop(a, b), x.drop(a, b));
                break;
            case 2:
                int more = random.nextInt(5) == 0 ? odd() : random.nextInt(200) - 100;
                due("shift", m.shift(a, more), x.shift(a, more));
                break;
            case 3:
                int weight = random.nextInt(6) - 1;
                due("weigh", m.weigh(b, weight), x.weigh(b, weight));
                break;
            case 4:
                for (int left = random.nextInt(12); left >= 0; left--) {
                    due("undo", m.undo(), x.undo());
                }
                break;
            default:
                int level = level();
                due("sale", m.sale(a, b, level), x.sale(a, b, level));
                break;
        }
    }

    private void ask() {
        int a = home();
        int b = month();
        int p = random.nextInt(18) - 1;
        boolean under = random.nextBoolean();
        switch (random.nextInt(12)) {
            case 0:
                int what = random.nextInt(9) - 1;
                due("now(" + what + ")", m.now(what), x.now(what));
                break;
            case 1:
                due("level", m.level(a, b), x.level(a, b));
                break;
            case 2:
                int fact = random.nextInt(7) - 1;
                due("pair", m.pair(p, fact), Checks.answerOf(() -> x.pair(p, fact)));
                break;
            case 3:
                due("part", m.part(b), x.part(b));
                break;
            case 4:
                due("off", m.off(p, under), Checks.answerOf(() -> x.off(p, under)));
                break;
            case 5:
                due("error", m.error(under), x.error(under));
                break;
            case 6:
                due("worst", m.worst(), x.worst());
                break;
            case 7:
                due("without", m.without(a, b, under), Checks.answerOf(() -> x.without(a, b, under)));
                break;
            case 8:
                int level = level();
                int at = month();
                due("revised", m.revised(a, b, level, at, under),
                    Checks.answerOf(() -> x.revised(a, b, level, at, under)));
                break;
            case 9:
                due("worth", m.worth(a, b), x.worth(a, b));
                break;
            default:
                due("index", m.index(b, under), Checks.answerOf(() -> x.index(b, under)));
                break;
        }
    }
}
