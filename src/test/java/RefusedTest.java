import java.util.ArrayList;
import java.util.List;

/** "A refused call, one that throws changes nothing": objects with and without such a call are alike behind it. */
public final class RefusedTest {
    private static final int LEAST = Integer.MIN_VALUE;
    private static final int MOST = Integer.MAX_VALUE;
    private static final int NO_WORTH = -100000;
    /** Refused calls in a row on one object; with those that make it and a look they stay within its 512 calls. */
    private static final int ROW = 100;
    private static final Checks CHECKS = new Checks();

    interface Maker {
        RepeatIndex make();
    }

    interface Asked {
        long answer(RepeatIndex x);
    }

    record Call(String name, long want, Asked asked) {
        void make(String state, RepeatIndex x) {
            CHECKS.due(state + ": " + name, want, Checks.answerOf(() -> asked.answer(x)));
        }
    }

    public static void main(String[] args) {
        CHECKS.sentence("A refused call, one that throws changes nothing");
        state("a new object", () -> new RepeatIndex());
        state("a fault and a tape", RefusedTest::faulty);
        state("four months and three acts", RefusedTest::four);
        state("all full", RefusedTest::full);
        state("eighteen sales of three homes", RefusedTest::eighteen);
        state("levels at both ends", () -> Checks.of("months 2;home;sale 0 0;sale 1 999;home;sale 0 1;sale 1 998;home;"));
        faultyTexts();
        CHECKS.finish();
    }

    private static RepeatIndex faulty() {
        RepeatIndex x = new RepeatIndex();
        Checks.feed(x, "months 9;");
        x.text();
        Checks.feed(x, Samples.FOUR);
        return x;
    }

    private static RepeatIndex four() {
        RepeatIndex x = Checks.of(Samples.FOUR);
        x.home();
        x.sale(3, 2, 40);
        x.weigh(1, 2);
        Checks.feed(x, "months 2;" + Samples.homes(7));
        x.text();
        Checks.feed(x, Samples.most());
        return x;
    }

    private static RepeatIndex full() {
        RepeatIndex x = Checks.of(Samples.most());
        for (int act = 1; act <= 14; act++) {
            x.shift(act % 6, act);
        }
        x.drop(0, 0);
        x.undo();
        Checks.feed(x, Samples.padded(Samples.FOUR, 540));
        return x;
    }

    private static RepeatIndex eighteen() {
        RepeatIndex x = Checks.of(Samples.soldTimes(17, 3));
        for (int act = 1; act <= 8; act++) {
            x.weigh(act % 7 + 1, act % 4);
        }
        x.drop(0, 3);
        x.sale(0, 3, 900);
        x.sale(2, 5, 77);
        Checks.feed(x, Samples.padded(Samples.FOUR, 521));
        return x;
    }

    private static void state(String name, Maker maker) {
        List<Call> calls = new ArrayList<>();
        refusedOfTape(maker.make(), calls);
        refusedAsking(maker.make(), calls);
        refusedOfHomes(maker.make(), calls);
        refusedOfSales(maker.make(), calls);
        refusedActs(maker.make(), calls);
        List<List<Long>> bases = new ArrayList<>();
        for (int look = 0; look < Looks.COUNT; look++) {
            bases.add(Looks.at(maker.make(), look));
        }
        for (Call call : calls) {
            for (int look = 0; look < Looks.COUNT; look++) {
                RepeatIndex x = maker.make();
                call.make(name, x);
                dueLook(name + " behind " + call.name, bases.get(look), Looks.at(x, look));
            }
        }
        for (int from = 0; from < calls.size(); from += ROW) {
            List<Call> row = calls.subList(from, Math.min(calls.size(), from + ROW));
            for (int look = 0; look < Looks.COUNT; look++) {
                RepeatIndex x = maker.make();
                for (Call call : row) {
                    call.make(name, x);
                }
                dueLook(name + " behind a row of calls from " + row.get(0).name, bases.get(look), Looks.at(x, look));
            }
        }
    }

    private static void dueLook(String what, List<Long> want, List<Long> got) {
        CHECKS.due(what + ": is like before", 1, want.equals(got));
    }

    private static void add(List<Call> calls, String name, long want, Asked asked) {
        calls.add(new Call(name, want, asked));
    }

    private static void refusedOfTape(RepeatIndex now, List<Call> calls) {
        int tape = now.now(6);
        if (tape > 520) {
            add(calls, "feed", -1, x -> x.feed(MOST, MOST, MOST, MOST, MOST));
        }
        for (int n : new int[] {LEAST, -1, tape + 1, 541, MOST}) {
            add(calls, "end(" + n + ")", 0, x -> x.end(n) ? 1 : 0);
        }
        if (now.now(5) == 0) {
            add(calls, "undo()", -1, x -> x.undo());
        }
    }

    private static void refusedAsking(RepeatIndex now, List<Call> calls) {
        int months = now.now(0);
        int pairs = now.now(3);
        for (int what : new int[] {LEAST, -1, 7, MOST}) {
            add(calls, "now(" + what + ")", -1, x -> x.now(what));
        }
        for (int month : new int[] {LEAST, -1, months, 8, MOST}) {
            add(calls, "part(" + month + ")", -1, x -> x.part(month));
            add(calls, "index(" + month + ")", Checks.THROWS, x -> x.index(month, false));
        }
        for (int pair : new int[] {LEAST, -1, pairs, 42, MOST}) {
            add(calls, "pair(" + pair + ", 0)", Checks.THROWS, x -> x.pair(pair, 0));
            add(calls, "off(" + pair + ")", Checks.THROWS, x -> x.off(pair, false));
        }
        for (int what : new int[] {LEAST, -1, 5, MOST}) {
            add(calls, "pair(0, " + what + ")", Checks.THROWS, x -> x.pair(0, what));
        }
    }

    /** Calls with a home that is not there, with a month that is not there. */
    private static void refusedOfHomes(RepeatIndex now, List<Call> calls) {
        int months = now.now(0);
        int homes = now.now(1);
        for (int home : new int[] {LEAST, -1, homes, 6, MOST}) {
            refusedAt(calls, home, 0);
            refusedAt(calls, home, months - 1);
            add(calls, "shift(" + home + ", 0)", -1, x -> x.shift(home, 0));
        }
        for (int month : new int[] {LEAST, -1, months, 8, MOST}) {
            refusedAt(calls, 0, month);
            refusedAt(calls, homes - 1, month);
        }
        if (homes == 6) {
            add(calls, "home()", -2, x -> x.home());
        }
    }

    private static void refusedAt(List<Call> calls, int home, int month) {
        String at = "(" + home + ", " + month + ")";
        add(calls, "level" + at, -1, x -> x.level(home, month));
        add(calls, "worth" + at, NO_WORTH, x -> x.worth(home, month));
        add(calls, "drop" + at, -1, x -> x.drop(home, month));
        add(calls, "sale" + at, -1, x -> x.sale(home, month, 5));
        add(calls, "without" + at, Checks.THROWS, x -> x.without(home, month, false));
        add(calls, "revised" + at, Checks.THROWS, x -> x.revised(home, month, 5, 0, false));
    }

    /** Calls with homes and months that are there: of each home its first sale and its first month without one. */
    private static void refusedOfSales(RepeatIndex now, List<Call> calls) {
        int months = now.now(0);
        boolean full = now.now(2) == 18;
        for (int h = 0; h < now.now(1); h++) {
            int home = h;
            int sold = firstMonth(now, home, true);
            int open = firstMonth(now, home, false);
            if (sold >= 0) {
                int level = now.level(home, sold);
                add(calls, "sale of " + home + " sold", -1, x -> x.sale(home, sold, 5));
                add(calls, "revised of " + home + " sold", Checks.THROWS, x -> x.revised(home, sold, 5, 0, false));
                add(calls, "shift of " + home + " below 0", -1, x -> x.shift(home, -level - 1));
                add(calls, "shift of " + home + " above 999", -1, x -> x.shift(home, 1000 - level));
            }
            if (open >= 0) {
                add(calls, "drop of " + home + " not sold", -1, x -> x.drop(home, open));
                for (int level : new int[] {LEAST, -1, 1000, MOST}) {
                    add(calls, "sale at " + level, -1, x -> x.sale(home, open, level));
                    add(calls, "revised at " + level, Checks.THROWS, x -> x.revised(home, open, level, 0, true));
                }
                add(calls, "revised at month -1", Checks.THROWS, x -> x.revised(home, open, 5, -1, true));
                add(calls, "revised at month " + months, Checks.THROWS, x -> x.revised(home, open, 5, months, true));
            }
            if (open >= 0 && full) {
                add(calls, "sale of 18", -2, x -> x.sale(home, open, 5));
            }
        }
    }

    private static int firstMonth(RepeatIndex now, int home, boolean sold) {
        for (int month = 0; month < now.now(0); month++) {
            if (now.level(home, month) >= 0 == sold) {
                return month;
            }
        }
        return -1;
    }

    private static void refusedActs(RepeatIndex now, List<Call> calls) {
        int months = now.now(0);
        for (int gap : new int[] {LEAST, -1, 0, months, 8, MOST}) {
            add(calls, "weigh(" + gap + ", 1)", -1, x -> x.weigh(gap, 1));
            add(calls, "weigh(" + gap + ", 0)", -1, x -> x.weigh(gap, 0));
        }
        for (int weight : new int[] {LEAST, -1, 4, MOST}) {
            add(calls, "weigh(1, " + weight + ")", -1, x -> x.weigh(1, weight));
        }
        for (int more : new int[] {LEAST, -1000, 1000, MOST}) {
            add(calls, "shift(0, " + more + ")", -1, x -> x.shift(0, more));
        }
    }

    /** A text with a FAULT empties the tape and tells a kind; else it is like a tape cut to nothing. */
    private static void faultyTexts() {
        CHECKS.sentence("-1 less the place of a FAULT: all stays");
        String[] texts = {"", "months 9;", "months 8;weigh 1 3;weigh 7 1;home;sale 0 1;sale 7 999;home;sale 8 1;",
            "months 2;" + Samples.homes(7), Samples.soldTimes(18, 3) + "sale", Samples.padded(Samples.most(), 501)};
        Maker[] makers = {RepeatIndex::new, RefusedTest::four, RefusedTest::full, RefusedTest::eighteen};
        for (Maker maker : makers) {
            for (String text : texts) {
                for (int look = 0; look < Looks.COUNT; look++) {
                    RepeatIndex like = maker.make();
                    like.end(0);
                    RepeatIndex x = maker.make();
                    x.end(0);
                    Checks.feed(x, text);
                    CHECKS.due("is a FAULT: " + text, 1, x.text() < 0);
                    dueLook("behind " + text, withoutFault(like, look), withoutFault(x, look));
                }
            }
        }
    }

    /** The first answer of a look at the book is fault(), which a text changes. */
    private static List<Long> withoutFault(RepeatIndex x, int look) {
        List<Long> seen = Looks.at(x, look);
        return look <= 10 ? seen.subList(1, seen.size()) : seen;
    }
}
