import java.util.ArrayList;
import java.util.List;

/** Each call with each argument from below its range to above it, in books from empty to full, against the model. */
public final class SweepTest {
    private static final int[] HOMES = {Integer.MIN_VALUE, -1, 0, 1, 2, 3, 4, 5, 6, 7, Integer.MAX_VALUE};
    private static final int[] MONTHS = {Integer.MIN_VALUE, -1, 0, 1, 2, 3, 4, 5, 6, 7, 8, 9, Integer.MAX_VALUE};
    private static final int[] LEVELS = {Integer.MIN_VALUE, -1, 0, 1, 500, 998, 999, 1000, Integer.MAX_VALUE};
    private static final int[] SHIFTS = {Integer.MIN_VALUE, -1000, -999, -998, -500, -1, 0, 1, 500, 998, 999, 1000,
        Integer.MAX_VALUE};
    private static final int[] WEIGHTS = {Integer.MIN_VALUE, -1, 0, 1, 2, 3, 4, Integer.MAX_VALUE};
    private static final boolean[] BOTH = {false, true};
    private static final Checks CHECKS = new Checks();

    interface Asked {
        long answer(RepeatIndex x);
    }

    /** An object that is made anew when it has been asked often enough, with a model beside it. */
    private static final class Twin {
        private static final int CALLS_MOST = 400;

        private final String text;
        private RepeatIndex x;
        private Model m;
        private int calls;

        Twin(String text) {
            this.text = text;
            renew();
        }

        void renew() {
            x = Checks.of(text);
            m = new Model();
            m.tape.append(text);
            m.text();
            calls = 0;
        }

        void due(String what, long want, Asked asked) {
            calls++;
            if (calls > CALLS_MOST) {
                renew();
            }
            CHECKS.due(text + ": " + what, want, Checks.answerOf(() -> asked.answer(x)));
        }
    }

    public static void main(String[] args) {
        for (String text : books()) {
            asking(new Twin(text));
            ofHomes(new Twin(text));
            trials(new Twin(text));
            acts(text);
        }
        prefixes();
        otherBytes();
        CHECKS.finish();
    }

    private static List<String> books() {
        List<String> books = new ArrayList<>();
        for (int months = 2; months <= 8; months++) {
            books.add("months " + months + ";");
            books.add("months " + months + ";weigh 1 2;home;sale 0 0;sale " + (months - 1) + " 999;home;sale 1 500;home;");
        }
        books.add(Samples.FOUR);
        books.add(Samples.most());
        books.add(Samples.soldTimes(17, 3));
        books.add(Samples.soldTimes(18, 3));
        books.add(Samples.soldTimes(18, 6));
        books.add("months 8;weigh 3 3;weigh 5 1;home;sale 7 0;sale 2 999;sale 4 3;home;sale 0 17;sale 6 55;home;sale 4 1;"
            + "sale 7 801;home;sale 1 1;sale 3 8;home;sale 3 5;sale 5 6;sale 1 0;home;sale 2 44;");
        return books;
    }

    private static void asking(Twin t) {
        for (int what = -2; what <= 9; what++) {
            int w = what;
            t.due("now(" + w + ")", t.m.now(w), x -> x.now(w));
        }
        for (int month : MONTHS) {
            t.due("part(" + month + ")", t.m.part(month), x -> x.part(month));
            for (boolean under : BOTH) {
                t.due("index(" + month + ", " + under + ")", t.m.index(month, under), x -> x.index(month, under));
            }
        }
        for (int pair = -2; pair <= 17; pair++) {
            int p = pair;
            for (int what = -2; what <= 6; what++) {
                int w = what;
                t.due("pair(" + p + ", " + w + ")", t.m.pair(p, w), x -> x.pair(p, w));
            }
            for (boolean under : BOTH) {
                t.due("off(" + p + ", " + under + ")", t.m.off(p, under), x -> x.off(p, under));
            }
        }
        for (boolean under : BOTH) {
            t.due("error(" + under + ")", t.m.error(under), x -> x.error(under));
        }
        t.due("worst()", t.m.worst(), x -> x.worst());
    }

    private static void ofHomes(Twin t) {
        for (int home : HOMES) {
            for (int month : MONTHS) {
                String at = "(" + home + ", " + month + ")";
                t.due("level" + at, t.m.level(home, month), x -> x.level(home, month));
                t.due("worth" + at, t.m.worth(home, month), x -> x.worth(home, month));
                for (boolean under : BOTH) {
                    t.due("without" + at, t.m.without(home, month, under), x -> x.without(home, month, under));
                }
            }
        }
    }

    private static void trials(Twin t) {
        for (int home : new int[] {-1, 0, 2, 5, 6}) {
            for (int month : MONTHS) {
                for (int level : new int[] {-1, 0, 999, 1000}) {
                    for (int at : new int[] {-1, 0, 1, t.m.months - 1, t.m.months}) {
                        boolean under = (month + at) % 2 == 0;
                        String call = "revised(" + home + ", " + month + ", " + level + ", " + at + ", " + under + ")";
                        t.due(call, t.m.revised(home, month, level, at, under),
                            x -> x.revised(home, month, level, at, under));
                    }
                }
            }
        }
    }

    /** Each act on a new object, a look at the book behind it, then undone. */
    private static void acts(String text) {
        act(text, "home()", m -> m.home(), x -> x.home());
        for (int home : HOMES) {
            for (int month : MONTHS) {
                act(text, "drop(" + home + ", " + month + ")", m -> m.drop(home, month), x -> x.drop(home, month));
                for (int level : LEVELS) {
                    String call = "sale(" + home + ", " + month + ", " + level + ")";
                    act(text, call, m -> m.sale(home, month, level), x -> x.sale(home, month, level));
                }
            }
            for (int more : SHIFTS) {
                act(text, "shift(" + home + ", " + more + ")", m -> m.shift(home, more), x -> x.shift(home, more));
            }
        }
        for (int gap : MONTHS) {
            for (int weight : WEIGHTS) {
                act(text, "weigh(" + gap + ", " + weight + ")", m -> m.weigh(gap, weight), x -> x.weigh(gap, weight));
            }
        }
    }

    interface ModelAct {
        long answer(Model m);
    }

    private static void act(String text, String call, ModelAct modelAct, Asked asked) {
        Twin t = new Twin(text);
        t.due(call, modelAct.answer(t.m), asked);
        look(t, "behind " + call);
        t.due("undo behind " + call, t.m.undo(), x -> x.undo());
        look(t, "undone: " + call);
    }

    private static void look(Twin t, String when) {
        for (int what = 0; what <= 6; what++) {
            int w = what;
            t.due("now(" + w + ") " + when, t.m.now(w), x -> x.now(w));
        }
        for (int home = 0; home < 6; home++) {
            int h = home;
            for (int month = 0; month < 8; month++) {
                int m = month;
                t.due("level(" + h + ", " + m + ") " + when, t.m.level(h, m), x -> x.level(h, m));
            }
        }
        for (int pair = 0; pair < t.m.now(3); pair++) {
            int p = pair;
            t.due("weight of " + p + " " + when, t.m.pair(p, 4), x -> x.pair(p, 4));
        }
    }

    private static void prefixes() {
        for (String text : books()) {
            for (int length = 0; length <= text.length(); length++) {
                dueText(text.substring(0, length));
            }
        }
    }

    /** Each byte of a text in turn put instead of, ahead of and left out at each place. */
    private static void otherBytes() {
        String text = "months 3;weigh 2 1;home;sale 2 17;home;sale 0 999;";
        for (int place = 0; place <= text.length(); place++) {
            String ahead = text.substring(0, place);
            String behind = text.substring(place);
            for (int sign = 0; sign < 256; sign++) {
                dueText(ahead + (char) sign + behind);
                if (!behind.isEmpty()) {
                    dueText(ahead + (char) sign + behind.substring(1));
                }
            }
            if (!behind.isEmpty()) {
                dueText(ahead + behind.substring(1));
            }
        }
    }

    private static void dueText(String text) {
        RepeatIndex x = new RepeatIndex();
        Model m = new Model();
        Checks.feed(x, text);
        m.tape.append(text);
        CHECKS.due("text of " + text, m.text(), x.text());
        CHECKS.due("fault of " + text, m.fault, x.fault());
        for (int what = 0; what <= 2; what++) {
            CHECKS.due("now(" + what + ") behind " + text, m.now(what), x.now(what));
        }
    }
}
