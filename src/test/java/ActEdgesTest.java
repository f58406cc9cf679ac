/** The edges of promises 17 to 22, of a new TEXT and of 512 calls, sentence by sentence. */
public final class ActEdgesTest {
    private static final int LEAST = Integer.MIN_VALUE;
    private static final int MOST = Integer.MAX_VALUE;
    private static final int[] FAR = {LEAST, LEAST + 1, -1000, -2, -1, 1000, MOST - 1, MOST};
    private static final Checks CHECKS = new Checks();

    public static void main(String[] args) {
        homeNumbers();
        sixHomes();
        saleCounts();
        saleNoSuchOnes();
        saleSoldInIt();
        saleAnotherLevel();
        eighteenSales();
        saleFirstThatIsSo();
        dropCounts();
        dropNoSuchOne();
        shiftMoves();
        shiftNumbers();
        shiftKeepsLevels();
        shiftNoSuchHome();
        weighGaps();
        weighWeights();
        weighWhatItWas();
        undoEach();
        undoTenAtMost();
        undoNone();
        undoOnlyWhatWasDone();
        newTextForgets();
        askedAheadOfEachAct();
        fiveHundredTwelveCalls();
        CHECKS.finish();
    }

    private static void due(String what, long want, long got) {
        CHECKS.due(what, want, got);
    }

    private static void homeNumbers() {
        CHECKS.sentence("home: A further HOME: its number");
        for (int had = 0; had <= 5; had++) {
            RepeatIndex x = Checks.of("months 3;" + Samples.homes(had));
            due("level(" + had + ", 0) ahead", -1, x.level(had, 0));
            due("sale ahead", -1, x.sale(had, 0, 5));
            due("home() behind " + had, had, x.home());
            due("HOMES", had + 1, x.now(1));
            due("SALES", 0, x.now(2));
            for (int month = 0; month < 3; month++) {
                due("not sold", -1, x.level(had, month));
            }
            due("sale", 1, x.sale(had, 2, 5));
        }
    }

    private static void sixHomes() {
        CHECKS.sentence("home: -2: there are 6");
        RepeatIndex acts = new RepeatIndex();
        for (int home = 0; home < 6; home++) {
            due("home()", home, acts.home());
        }
        RepeatIndex told = Checks.of(Samples.most());
        for (RepeatIndex x : new RepeatIndex[] {acts, told}) {
            int undone = x.now(5);
            due("seventh", -2, x.home());
            due("again", -2, x.home());
            due("HOMES", 6, x.now(1));
            due("what can be undone", undone, x.now(5));
            due("level(6, 0)", -1, x.level(6, 0));
        }
        due("undo", 5, acts.undo());
        due("HOMES", 5, acts.now(1));
        due("home()", 5, acts.home());
        due("home()", -2, acts.home());
    }

    private static void saleCounts() {
        CHECKS.sentence("sale: A HOME is sold in a MONTH at a LEVEL: how many SALES there are");
        RepeatIndex x = Checks.of("months 8;" + Samples.homes(6));
        int sales = 0;
        for (int home = 5; home >= 3; home--) {
            for (int month = 7; month >= 2; month--) {
                sales++;
                int level = 50 * sales;
                due("sale", sales, x.sale(home, month, level));
                due("SALES", sales, x.now(2));
                due("level", level, x.level(home, month));
            }
        }
        due("SALES", 18, x.now(2));
        due("PAIRS", 15, x.now(3));
    }

    private static void saleNoSuchOnes() {
        CHECKS.sentence("sale: NONE: no such ones");
        for (int months = 2; months <= 8; months++) {
            RepeatIndex x = Checks.of("months " + months + ";home;home;");
            due("home -1", -1, x.sale(-1, 0, 5));
            due("home 2", -1, x.sale(2, 0, 5));
            due("month -1", -1, x.sale(0, -1, 5));
            due("month of one more", -1, x.sale(0, months, 5));
            for (int far : FAR) {
                due("home " + far, -1, x.sale(far, 0, 5));
                due("month " + far, -1, x.sale(0, far, 5));
            }
            due("SALES", 0, x.now(2));
            due("what can be undone", 0, x.now(5));
            due("first home, last month", 1, x.sale(0, months - 1, 5));
            due("last home, first month", 2, x.sale(1, 0, 5));
        }
    }

    private static void saleSoldInIt() {
        CHECKS.sentence("sale: NONE: ... it was sold in it");
        for (int level : new int[] {0, 1, 500, 999}) {
            RepeatIndex x = Checks.of("months 3;home;sale 1 " + level + ";home;");
            due("sold at the same level", -1, x.sale(0, 1, level));
            due("sold at another level", -1, x.sale(0, 1, 7));
            due("level", level, x.level(0, 1));
            due("ahead of it", 2, x.sale(0, 0, level));
            due("behind it", 3, x.sale(0, 2, level));
            due("in it, another home", 4, x.sale(1, 1, level));
            due("dropped", 3, x.drop(0, 1));
            due("sold again", 4, x.sale(0, 1, 7));
            due("level", 7, x.level(0, 1));
        }
    }

    private static void saleAnotherLevel() {
        CHECKS.sentence("sale: NONE: ... another LEVEL");
        RepeatIndex x = Checks.of("months 8;home;");
        int month = 0;
        for (int level : new int[] {-1, 0, 1, 998, 999, 1000}) {
            boolean good = level >= 0 && level <= 999;
            due("level " + level, good ? x.now(2) + 1 : -1, x.sale(0, month, level));
            due("level", good ? level : -1, x.level(0, month));
            month++;
        }
        for (int far : FAR) {
            due("level " + far, -1, x.sale(0, 7, far));
        }
        due("SALES", 4, x.now(2));
    }

    private static void eighteenSales() {
        CHECKS.sentence("sale: -2: there are 18");
        RepeatIndex x = Checks.of(Samples.soldTimes(16, 3));
        due("17th", 17, x.sale(2, 4, 5));
        due("18th", 18, x.sale(2, 6, 5));
        due("19th", -2, x.sale(2, 5, 5));
        due("19th again", -2, x.sale(2, 0, 999));
        due("SALES", 18, x.now(2));
        due("what can be undone", 2, x.now(5));
        due("level", -1, x.level(2, 5));
        due("a further home", 3, x.home());
        due("19th, of the new home", -2, x.sale(3, 0, 0));
        due("drop", 17, x.drop(0, 0));
        due("18th", 18, x.sale(3, 0, 0));
        due("19th", -2, x.sale(0, 0, 5));
        due("undo", 4, x.undo());
        due("18th", 18, x.sale(0, 0, 5));
    }

    private static void saleFirstThatIsSo() {
        CHECKS.sentence("sale: The first that is so: NONE: no such ones, it was sold in it, another LEVEL; -2: there are 18");
        RepeatIndex x = Checks.of(Samples.soldTimes(18, 3));
        due("home -1", -1, x.sale(-1, 2, 5));
        due("home 3", -1, x.sale(3, 2, 5));
        due("month -1", -1, x.sale(2, -1, 5));
        due("month 8", -1, x.sale(2, 8, 5));
        due("sold in it", -1, x.sale(2, 1, 5));
        due("level -1", -1, x.sale(2, 2, -1));
        due("level 1000", -1, x.sale(2, 2, 1000));
        due("level 0", -2, x.sale(2, 2, 0));
        due("level 999", -2, x.sale(2, 7, 999));
        due("sold in it, level 1000", -1, x.sale(2, 1, 1000));
    }

    private static void dropCounts() {
        CHECKS.sentence("drop: A SALE is taken back: how many there are");
        RepeatIndex x = Checks.of(Samples.soldTimes(18, 3));
        int left = 18;
        for (int month = 7; month >= 0; month--) {
            left--;
            due("drop(1, " + month + ")", left, x.drop(1, month));
            due("level", -1, x.level(1, month));
            due("SALES", left, x.now(2));
        }
        due("HOMES", 3, x.now(1));
        RepeatIndex lone = Checks.of("months 2;home;sale 1 0;");
        due("the last of all", 0, lone.drop(0, 1));
        due("again", -1, lone.drop(0, 1));
        due("SALES", 0, lone.now(2));
        due("sold again", 1, lone.sale(0, 1, 999));
    }

    private static void dropNoSuchOne() {
        CHECKS.sentence("drop: NONE: no such one");
        RepeatIndex x = Checks.of("months 4;home;sale 0 0;sale 3 999;home;home;sale 1 5;");
        int[][] none = {{0, 1}, {0, 2}, {0, -1}, {0, 4}, {1, 0}, {1, 3}, {2, 0}, {3, 0}, {-1, 0}, {-1, 3}, {3, -1}};
        for (int[] call : none) {
            due("drop(" + call[0] + ", " + call[1] + ")", -1, x.drop(call[0], call[1]));
        }
        for (int far : FAR) {
            due("drop(" + far + ", 0)", -1, x.drop(far, 0));
            due("drop(0, " + far + ")", -1, x.drop(0, far));
            due("drop of both", -1, x.drop(far, far));
        }
        due("SALES", 3, x.now(2));
        due("what can be undone", 0, x.now(5));
        due("drop(0, 0)", 2, x.drop(0, 0));
        due("drop(0, 3)", 1, x.drop(0, 3));
    }

    private static void shiftMoves() {
        CHECKS.sentence("shift: LEVELS of all SALES of a HOME are so much more: how many they are");
        for (int sales = 0; sales <= 8; sales++) {
            RepeatIndex x = Checks.of("months 8;home;" + Samples.sales(8, 40) + "home;" + Samples.sales(sales, 40));
            due("shift of " + sales, sales, x.shift(1, 7));
            for (int month = 0; month < 8; month++) {
                due("level of it", month < sales ? 47 : -1, x.level(1, month));
                due("level of another home", 40, x.level(0, month));
            }
            due("shift back", sales, x.shift(1, -47));
            due("level", sales > 0 ? 0 : -1, x.level(1, 0));
            due("SALES", 8 + sales, x.now(2));
        }
    }

    private static void shiftNumbers() {
        CHECKS.sentence("shift: (-999 to 999); NONE: ... another number");
        for (int more : new int[] {-1000, -999, -998, -1, 0, 1, 998, 999, 1000}) {
            RepeatIndex empty = Checks.of("months 2;home;");
            boolean told = more >= -999 && more <= 999;
            due("shift of no sale by " + more, told ? 0 : -1, empty.shift(0, more));
            due("what can be undone", told ? 1 : 0, empty.now(5));
        }
        RepeatIndex x = Checks.of("months 2;home;sale 0 0;home;sale 1 999;home;");
        due("0 by 999", 1, x.shift(0, 999));
        due("level", 999, x.level(0, 0));
        due("999 by -999", 1, x.shift(1, -999));
        due("level", 0, x.level(1, 1));
        due("999 by -1000", -1, x.shift(0, -1000));
        due("0 by 1000", -1, x.shift(1, 1000));
        for (int far : new int[] {LEAST, LEAST + 1, LEAST + 999, MOST - 999, MOST - 1, MOST}) {
            due("by " + far, -1, x.shift(0, far));
            due("by " + far, -1, x.shift(1, far));
            due("of no sale by " + far, -1, x.shift(2, far));
        }
        due("what can be undone", 2, x.now(5));
    }

    private static void shiftKeepsLevels() {
        CHECKS.sentence("shift: NONE: ... one would not be 0 to 999");
        // The one that would not be stands first, between the others, and last.
        int[][] levels = {{10, 500, 990}, {990, 10, 500}, {500, 990, 10}};
        for (int[] level : levels) {
            RepeatIndex x = Checks.of("months 3;home;sale 0 " + level[0] + ";sale 1 " + level[1] + ";sale 2 " + level[2] + ";");
            for (int more : new int[] {-11, 10, -999, 999, -12, 11, -500, 500}) {
                due("by " + more, -1, x.shift(0, more));
                for (int month = 0; month < 3; month++) {
                    due("level stays", level[month], x.level(0, month));
                }
            }
            due("what can be undone", 0, x.now(5));
            due("by -10", 3, x.shift(0, -10));
            due("by -1", -1, x.shift(0, -1));
            due("by 19", 3, x.shift(0, 19));
            due("by 1", -1, x.shift(0, 1));
            for (int month = 0; month < 3; month++) {
                due("level", level[month] + 9, x.level(0, month));
            }
            due("by 0", 3, x.shift(0, 0));
            due("what can be undone", 3, x.now(5));
        }
    }

    private static void shiftNoSuchHome() {
        CHECKS.sentence("shift: NONE: no such HOME");
        for (int homes = 0; homes <= 6; homes++) {
            RepeatIndex x = Checks.of("months 2;" + Samples.homes(homes));
            due("shift(-1, 0)", -1, x.shift(-1, 0));
            due("shift of one more", -1, x.shift(homes, 0));
            for (int far : FAR) {
                due("shift(" + far + ", 0)", -1, x.shift(far, 0));
            }
            due("what can be undone", 0, x.now(5));
            if (homes > 0) {
                due("shift of the last", 0, x.shift(homes - 1, 0));
                due("shift of the first", 0, x.shift(0, 0));
            }
        }
    }

    private static void weighGaps() {
        CHECKS.sentence("weigh: 'weigh' of a GAP (1 to MONTHS less 1) ... NONE: others");
        for (int months = 2; months <= 8; months++) {
            RepeatIndex x = Checks.of("months " + months + ";");
            for (int gap = -1; gap <= 9; gap++) {
                boolean told = gap >= 1 && gap <= months - 1;
                due("weigh(" + gap + ", 2) of " + months, told ? 0 : -1, x.weigh(gap, 2));
                due("weigh(" + gap + ", 0) of " + months, told ? 2 : -1, x.weigh(gap, 0));
            }
            for (int far : FAR) {
                due("weigh(" + far + ", 1)", -1, x.weigh(far, 1));
                due("weigh(" + far + ", 0)", -1, x.weigh(far, 0));
            }
            due("what can be undone", Math.min(10, 2 * (months - 1)), x.now(5));
        }
    }

    private static void weighWeights() {
        CHECKS.sentence("weigh: is WEIGHT (1 to 3; 0: none) ... NONE: others");
        RepeatIndex x = Checks.of("months 3;home;sale 0 5;sale 2 5;");
        int was = 0;
        for (int weight = -1; weight <= 4; weight++) {
            boolean told = weight >= 0 && weight <= 3;
            due("weigh(2, " + weight + ")", told ? was : -1, x.weigh(2, weight));
            was = told ? weight : was;
            due("WEIGHT of the pair", Math.max(1, was), x.pair(0, 4));
        }
        for (int far : FAR) {
            due("weigh(2, " + far + ")", -1, x.weigh(2, far));
        }
        due("what can be undone", 4, x.now(5));
        due("weigh(2, 0)", 3, x.weigh(2, 0));
        due("WEIGHT without", 1, x.pair(0, 4));
    }

    private static void weighWhatItWas() {
        CHECKS.sentence("weigh: what it was (0: none)");
        RepeatIndex x = Checks.of("months 4;weigh 1 1;weigh 3 3;");
        due("told 1", 1, x.weigh(1, 2));
        due("not told", 0, x.weigh(2, 1));
        due("told 3", 3, x.weigh(3, 0));
        due("2 now", 2, x.weigh(1, 2));
        due("1 now", 1, x.weigh(2, 0));
        due("none now", 0, x.weigh(2, 0));
        due("none now", 0, x.weigh(3, 3));
        due("what can be undone", 7, x.now(5));
    }

    private static void undoEach() {
        CHECKS.sentence("undo: The latest home(), sale(), drop(), shift(), weigh() that was done is undone: how many more can be");
        RepeatIndex x = Checks.of(Samples.FOUR);
        due("home", 3, x.home());
        due("sale", 7, x.sale(3, 2, 40));
        due("drop", 6, x.drop(0, 1));
        due("shift", 2, x.shift(1, -200));
        due("weigh", 2, x.weigh(2, 3));
        due("undo of weigh", 4, x.undo());
        due("WEIGHT", 2, x.pair(0, 4));
        due("level is shifted", 0, x.level(1, 1));
        due("undo of shift", 3, x.undo());
        due("level", 200, x.level(1, 1));
        due("level", 230, x.level(1, 3));
        due("dropped", -1, x.level(0, 1));
        due("undo of drop", 2, x.undo());
        due("level", 110, x.level(0, 1));
        due("SALES", 7, x.now(2));
        due("undo of sale", 1, x.undo());
        due("SALES", 6, x.now(2));
        due("level", -1, x.level(3, 2));
        due("HOMES", 4, x.now(1));
        due("undo of home", 0, x.undo());
        due("HOMES", 3, x.now(1));
        due("sale of the home undone", -1, x.sale(3, 2, 40));
        due("undo of none", -1, x.undo());
        due("index", 65, x.index(3, false));
        // A home undone with its number given anew has none of the sales of the one before it.
        due("home", 3, x.home());
        due("sale", 7, x.sale(3, 2, 40));
        due("undo", 1, x.undo());
        due("undo", 0, x.undo());
        due("home", 3, x.home());
        due("level", -1, x.level(3, 2));
        // weigh of none, to none, and to the same.
        due("weigh of none", 0, x.weigh(1, 0));
        due("weigh of none", 0, x.weigh(1, 3));
        due("weigh to the same", 3, x.weigh(1, 3));
        due("undo", 3, x.undo());
        due("undo", 2, x.undo());
        due("weigh is none again", 0, x.weigh(1, 1));
    }

    private static void undoTenAtMost() {
        CHECKS.sentence("undo: (10 at most are kept)");
        for (int acts = 1; acts <= 35; acts++) {
            RepeatIndex x = Checks.of("months 2;home;sale 0 0;");
            for (int act = 1; act <= acts; act++) {
                due("shift", 1, x.shift(0, act));
                due("what can be undone behind " + act, Math.min(act, 10), x.now(5));
            }
            int level = acts * (acts + 1) / 2;
            for (int left = Math.min(acts, 10) - 1; left >= 0; left--) {
                due("level behind " + acts, level, x.level(0, 0));
                level -= acts - (Math.min(acts, 10) - 1 - left);
                due("undo", left, x.undo());
                due("what can be undone", left, x.now(5));
            }
            due("level at the last", level, x.level(0, 0));
            due("no more", -1, x.undo());
            due("level still", level, x.level(0, 0));
        }
        // Acts and undos by turns: room that an undo makes is used again.
        RepeatIndex x = Checks.of("months 2;home;sale 0 0;");
        for (int turn = 0; turn < 25; turn++) {
            due("shift", 1, x.shift(0, 3));
            due("shift", 1, x.shift(0, 5));
            due("undo", Math.min(turn + 1, 9), x.undo());
            due("level", 3 * (turn + 1), x.level(0, 0));
        }
        for (int left = 8; left >= 0; left--) {
            due("undo to " + left, left, x.undo());
            due("level", 3 * (25 - (9 - left)), x.level(0, 0));
        }
        due("no more", -1, x.undo());
    }

    private static void undoNone() {
        CHECKS.sentence("undo: NONE: none is");
        RepeatIndex x = new RepeatIndex();
        due("new", -1, x.undo());
        due("again", -1, x.undo());
        due("what can be undone", 0, x.now(5));
        due("home", 0, x.home());
        due("undo", 0, x.undo());
        due("none", -1, x.undo());
        due("HOMES", 0, x.now(1));
        due("home", 0, x.home());
        due("what can be undone", 1, x.now(5));
    }

    private static void undoOnlyWhatWasDone() {
        CHECKS.sentence("undo: ... that was done");
        RepeatIndex x = Checks.of(Samples.soldTimes(18, 6));
        due("shift", 8, x.shift(0, 100));
        due("home refused", -2, x.home());
        due("sale refused", -2, x.sale(2, 5, 5));
        due("sale refused", -1, x.sale(2, 0, 5));
        due("drop refused", -1, x.drop(3, 0));
        due("shift refused", -1, x.shift(0, 999));
        due("weigh refused", -1, x.weigh(8, 1));
        due("what can be undone", 1, x.now(5));
        // feed, end, text with a FAULT and what only asks are none of the five either.
        due("feed", 20, x.feed(0, 0, 0, 0, 0));
        due("end", 1, x.end(3) ? 1 : 0);
        due("text", -1, x.text());
        due("without under", 1, x.without(0, 0, true));
        due("revised under", 1, x.revised(3, 0, 5, 0, true));
        due("what can be undone", 1, x.now(5));
        due("undo of the shift", 0, x.undo());
        due("level", 5, x.level(0, 0));
        // undo is no act: it can't be undone.
        due("undo", -1, x.undo());
        due("feed", 20, x.feed(1, 1, 1, 1, 1));
        due("home of six refused", -2, x.home());
        due("weigh", 0, x.weigh(1, 1));
        due("undo", 0, x.undo());
        due("the tape stays", 20, x.now(6));
    }

    private static void newTextForgets() {
        CHECKS.sentence("A new TEXT: nothing can be undone");
        for (int acts : new int[] {0, 1, 9, 10, 11, 23}) {
            RepeatIndex x = Checks.of("months 2;home;sale 0 0;");
            for (int act = 0; act < acts; act++) {
                x.shift(0, 1);
            }
            Checks.feed(x, "months 2;home;sale 0 ?");
            due("text with a FAULT", -22, x.text());
            due("what can be undone stays", Math.min(acts, 10), x.now(5));
            Checks.feed(x, "months 3;home;sale 0 500;");
            due("text", 3, x.text());
            due("what can be undone", 0, x.now(5));
            due("undo", -1, x.undo());
            due("level", 500, x.level(0, 0));
            for (int act = 1; act <= 12; act++) {
                due("shift", 1, x.shift(0, 1));
                due("what can be undone", Math.min(act, 10), x.now(5));
            }
            for (int left = 9; left >= 0; left--) {
                due("undo", left, x.undo());
            }
            due("undo", -1, x.undo());
            due("level", 502, x.level(0, 0));
            due("MONTHS", 3, x.now(0));
        }
        RepeatIndex same = Checks.of("months 2;");
        same.home();
        Checks.feed(same, "months 2;");
        due("the same text", 1, same.text());
        due("undo", -1, same.undo());
        due("HOMES", 0, same.now(1));
    }

    /** What was asked ahead of an act is not answered again behind it. */
    private static void askedAheadOfEachAct() {
        CHECKS.sentence("answers are of the SALES as they are now");
        RepeatIndex x = Checks.of("months 3;home;sale 0 10;sale 1 20;home;sale 0 10;sale 1 40;");
        due("index", 20, x.index(1, false));
        due("home", 2, x.home());
        due("index behind home", 20, x.index(1, false));
        due("sale", 5, x.sale(1, 2, 90));
        due("index behind sale", 70, x.index(2, false));
        due("off behind sale", 0, x.off(2, false));
        due("PARTS", 1, x.now(4));
        due("weigh", 0, x.weigh(1, 2));
        due("error behind weigh", 400, x.error(false));
        due("drop", 4, x.drop(0, 1));
        due("index behind drop", 30, x.index(1, false));
        due("PAIRS behind drop", 2, x.now(3));
        due("worst behind drop", 0, x.worst());
        due("worth", 40, x.worth(0, 1));
        due("shift", 1, x.shift(0, 5));
        due("worth behind shift", 45, x.worth(0, 1));
        due("undo of shift", 4, x.undo());
        due("worth behind undo", 40, x.worth(0, 1));
        due("undo of drop", 3, x.undo());
        due("index behind undo", 20, x.index(1, false));
        due("error behind undo", 400, x.error(false));
        due("undo of weigh", 2, x.undo());
        due("error behind undo", 200, x.error(false));
        due("undo of sale", 1, x.undo());
        due("part behind undo", 2, x.part(2));
        due("without", 10, x.without(1, 1, false));
        due("index behind without", 20, x.index(1, false));
        due("revised", 70, x.revised(1, 2, 90, 2, false));
        due("index behind revised", 0, x.index(2, false));
        due("without behind revised", 30, x.without(0, 1, false));
        Checks.feed(x, "months 2;home;sale 0 1;sale 1 9;");
        due("text", 4, x.text());
        due("index behind text", 8, x.index(1, false));
    }

    private static void fiveHundredTwelveCalls() {
        CHECKS.sentence("An object is used for at most 512 calls after it has been made");
        RepeatIndex fed = new RepeatIndex();
        for (int turn = 0; turn < 256; turn++) {
            due("feed", 20, fed.feed(0x6d6f6e74, 0x68732037, 0x3b202020, 0x20202020, 0x20202020));
            due("text", 1, fed.text());
        }
        RepeatIndex acts = new RepeatIndex();
        due("home", 0, acts.home());
        due("sale", 1, acts.sale(0, 0, 0));
        for (int call = 3; call <= 511; call++) {
            due("shift", 1, acts.shift(0, 1));
        }
        due("level at the 512th call", 509, acts.level(0, 0));
        RepeatIndex undone = new RepeatIndex();
        for (int turn = 0; turn < 256; turn++) {
            due("home", 0, undone.home());
            due("undo", 0, undone.undo());
        }
    }
}
