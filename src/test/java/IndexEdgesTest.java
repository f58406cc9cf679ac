/** The edges of "Terms", second part, and of promises 6 to 16, sentence by sentence. */
public final class IndexEdgesTest {
    private static final int LEAST = Integer.MIN_VALUE;
    private static final int MOST = Integer.MAX_VALUE;
    private static final int NO_WORTH = -100000;
    private static final int[] FAR = {LEAST, LEAST + 1, -1000, -2, -1, 1000, MOST - 1, MOST};
    private static final Checks CHECKS = new Checks();

    public static void main(String[] args) {
        pairsOfAHome();
        pairsByMonths();
        rises();
        weightOfTheGreatestGap();
        weightWithout();
        pairsByHomes();
        parts();
        partsOneMonthAlone();
        zeroInTheFirstMonth();
        leastSum();
        lowestTerms();
        now();
        level();
        pair();
        part();
        index();
        off();
        error();
        worst();
        worstOfLikeOnes();
        worstOfNone();
        without();
        withoutWhatIsThere();
        revised();
        revisedWhatIsThere();
        revisedWithEighteen();
        worthFromTheLatest();
        worthCutDown();
        worthOfTwoParts();
        worthOfNone();
        CHECKS.finish();
    }

    private static void due(String what, long want, long got) {
        CHECKS.due(what, want, got);
    }

    private static void due(String what, long want, Checks.Call call) {
        CHECKS.due(what, want, call);
    }

    private static void dueThrows(String what, Checks.Call call) {
        CHECKS.due(what, Checks.THROWS, call);
    }

    private static void dueIndex(RepeatIndex x, int month, long top, long under) {
        due("index(" + month + ")", top, x.index(month, false));
        due("index(" + month + ") under", under, x.index(month, true));
    }

    private static void dueOff(RepeatIndex x, int pair, long top, long under) {
        due("off(" + pair + ")", top, x.off(pair, false));
        due("off(" + pair + ") under", under, x.off(pair, true));
    }

    private static void dueError(RepeatIndex x, long top, long under) {
        due("error", top, x.error(false));
        due("error under", under, x.error(true));
    }

    private static void pairsOfAHome() {
        CHECKS.sentence("each two next to one another are a PAIR");
        for (int sales = 0; sales <= 8; sales++) {
            RepeatIndex x = Checks.of("months 8;home;" + Samples.sales(sales, 5));
            due("PAIRS of " + sales + " sales", Math.max(0, sales - 1), x.now(3));
            for (int pair = 0; pair < sales - 1; pair++) {
                due("its first month", pair, x.pair(pair, 1));
                due("its second month", pair + 1, x.pair(pair, 2));
            }
        }
        RepeatIndex lone = Checks.of("months 2;home;sale 0 5;home;sale 1 5;");
        due("sales of two homes are no PAIR", 0, lone.now(3));
        due("most PAIRS", 15, Checks.of(Samples.soldTimes(18, 3)).now(3));
        due("PAIRS of three a home", 12, Checks.of(Samples.most()).now(3));
    }

    private static void pairsByMonths() {
        CHECKS.sentence("SALES of a HOME by MONTHS");
        RepeatIndex x = Checks.of("months 8;home;sale 7 1;sale 0 2;sale 4 30;");
        due("sold ahead", 4, x.sale(0, 3, 400));
        int[][] want = {{0, 0, 3, 398, 1}, {0, 3, 4, -370, 1}, {0, 4, 7, -29, 1}};
        for (int pair = 0; pair < want.length; pair++) {
            for (int what = 0; what < 5; what++) {
                due("pair(" + pair + ", " + what + ")", want[pair][what], x.pair(pair, what));
            }
        }
        due("drop of the one between", 3, x.drop(0, 4));
        due("pair over it", 7, x.pair(1, 2));
        due("its rise", -399, x.pair(1, 3));
    }

    private static void rises() {
        CHECKS.sentence("RISE: LEVEL in b less LEVEL in a");
        int[][] levels = {{0, 999}, {999, 0}, {0, 0}, {999, 999}, {0, 1}, {1, 0}, {998, 999}, {999, 998}};
        for (int[] level : levels) {
            RepeatIndex x = Checks.of("months 2;home;sale 0 " + level[0] + ";sale 1 " + level[1] + ";");
            due("RISE", level[1] - level[0], x.pair(0, 3));
            dueIndex(x, 1, level[1] - level[0], 1);
            dueOff(x, 0, 0, 1);
        }
    }

    private static void weightOfTheGreatestGap() {
        CHECKS.sentence("WEIGHT of a PAIR: of the 'weigh' with the greatest GAP that is not above (b less a)");
        for (int low = 1; low <= 7; low++) {
            for (int high = low + 1; high <= 7; high++) {
                String weighs = "weigh " + high + " 2;weigh " + low + " 3;";
                for (int held = 1; held <= 7; held++) {
                    RepeatIndex x = Checks.of("months 8;" + weighs + "home;sale 0 5;sale " + held + " 5;");
                    int want = held >= high ? 2 : held >= low ? 3 : 1;
                    due("held " + held + " with " + weighs, want, x.pair(0, 4));
                    due("weigh(high, 0)", 2, x.weigh(high, 0));
                    due("held " + held + " with one", held >= low ? 3 : 1, x.pair(0, 4));
                }
            }
        }
        RepeatIndex late = Checks.of("months 8;weigh 3 2;home;sale 4 5;sale 7 5;home;sale 5 5;sale 7 5;");
        due("from a later month on, as long as the GAP", 2, late.pair(0, 4));
        due("from a later month on, one less", 1, late.pair(1, 4));
    }

    private static void weightWithout() {
        CHECKS.sentence("WEIGHT of a PAIR: ... 1 without");
        for (int gap = 1; gap <= 7; gap++) {
            for (int held = 1; held <= 7; held++) {
                RepeatIndex x = Checks.of("months 8;weigh " + gap + " 3;home;sale 0 5;sale " + held + " 5;");
                due("held " + held + " with gap " + gap, held >= gap ? 3 : 1, x.pair(0, 4));
                due("weigh to none", 3, x.weigh(gap, 0));
                due("held " + held + " with none", 1, x.pair(0, 4));
            }
        }
    }

    private static void pairsByHomes() {
        CHECKS.sentence("PAIRS are numbered from 0: by HOMES, of one by MONTHS");
        RepeatIndex x = Checks.of("months 4;home;sale 2 1;sale 3 1;home;home;sale 0 1;home;sale 3 5;sale 1 4;sale 0 2;"
            + "home;sale 0 1;sale 1 1;");
        int[][] want = {{0, 2, 3}, {3, 0, 1}, {3, 1, 3}, {4, 0, 1}};
        for (int pair = 0; pair < want.length; pair++) {
            for (int what = 0; what < 3; what++) {
                due("pair(" + pair + ", " + what + ")", want[pair][what], x.pair(pair, what));
            }
        }
        due("a sale that makes a PAIR of an earlier home", 9, x.sale(2, 3, 1));
        due("its number", 2, x.pair(1, 0));
        due("the next one's", 3, x.pair(2, 0));
        due("the last one's", 4, x.pair(4, 0));
    }

    private static void dueParts(RepeatIndex x, int... want) {
        int count = 0;
        for (int month = 0; month < want.length; month++) {
            due("part(" + month + ")", want[month], x.part(month));
            count += want[month] == month ? 1 : 0;
        }
        due("PARTS", count, x.now(4));
    }

    private static void parts() {
        CHECKS.sentence("PART of a MONTH: all MONTHS to which one comes from it by PAIRS, either way; it is named by its first MONTH");
        // A chain that is told from its end, so that the first month comes in last.
        dueParts(Checks.of("months 6;home;sale 4 1;sale 5 1;home;sale 3 1;sale 4 1;home;sale 2 1;sale 3 1;"
            + "home;sale 1 1;sale 2 1;home;sale 0 1;sale 1 1;"), 0, 0, 0, 0, 0, 0);
        // Two stars whose middles are last months, joined by nothing.
        dueParts(Checks.of("months 8;home;sale 0 1;sale 6 1;home;sale 2 1;sale 6 1;home;sale 4 1;sale 6 1;"
            + "home;sale 1 1;sale 7 1;home;sale 3 1;sale 7 1;"), 0, 1, 0, 1, 0, 5, 0, 1);
        RepeatIndex x = Checks.of("months 8;home;sale 2 1;sale 4 1;home;sale 5 1;sale 7 1;home;sale 4 1;home;sale 1 1;");
        dueParts(x, 0, 1, 2, 3, 2, 5, 6, 5);
        x.sale(2, 7, 1);
        dueParts(x, 0, 1, 2, 3, 2, 2, 6, 2);
        x.sale(3, 7, 1);
        dueParts(x, 0, 1, 1, 3, 1, 1, 6, 1);
        x.drop(2, 4);
        dueParts(x, 0, 1, 2, 3, 2, 1, 6, 1);
        x.undo();
        x.undo();
        x.undo();
        dueParts(x, 0, 1, 2, 3, 2, 5, 6, 5);
    }

    private static void partsOneMonthAlone() {
        CHECKS.sentence("PART of a MONTH ... (one that no PAIR comes to is a PART of its own)");
        dueParts(Checks.of("months 8;"), 0, 1, 2, 3, 4, 5, 6, 7);
        dueParts(Checks.of("months 3;home;sale 0 1;home;sale 1 1;home;sale 2 1;"), 0, 1, 2);
        dueParts(Checks.of("months 3;home;sale 0 1;sale 2 1;"), 0, 1, 0);
        dueParts(Checks.of("months 2;home;sale 0 1;sale 1 1;"), 0, 0);
        dueParts(Checks.of(Samples.soldTimes(8, 1)), 0, 0, 0, 0, 0, 0, 0, 0);
        dueParts(Checks.of(Samples.soldTimes(7, 1)), 0, 0, 0, 0, 0, 0, 0, 7);
    }

    private static void zeroInTheFirstMonth() {
        CHECKS.sentence("INDEX of MONTHS: numbers (fractions), 0 in the first MONTH of each PART");
        RepeatIndex x = Checks.of("months 8;home;sale 1 100;sale 3 40;home;sale 2 10;sale 7 30;sale 6 25;");
        long[] want = {0, 0, 0, -60, 0, 0, 15, 20};
        for (int month = 0; month < 8; month++) {
            dueIndex(x, month, want[month], 1);
        }
        x.sale(0, 0, 7);
        dueIndex(x, 0, 0, 1);
        dueIndex(x, 1, 93, 1);
        dueIndex(x, 3, 33, 1);
        dueIndex(x, 2, 0, 1);
    }

    private static void leastSum() {
        CHECKS.sentence("by which the sum, of all PAIRS, of WEIGHT times the square of OFF is the least");
        // Two pairs between the same months: the middle of their rises, whatever weight both have.
        RepeatIndex like = Checks.of("months 2;home;sale 0 0;sale 1 10;home;sale 0 0;sale 1 21;");
        dueIndex(like, 1, 31, 2);
        dueOff(like, 0, -11, 2);
        dueOff(like, 1, 11, 2);
        dueError(like, 121, 2);
        like.weigh(1, 3);
        dueIndex(like, 1, 31, 2);
        dueError(like, 363, 2);
        // A ring of three pairs: 0 to 1 is 10, 1 to 2 is 20, 0 to 2 is 36 with weight 2: what is off is shared by 1/w.
        RepeatIndex ring = Checks.of("months 3;weigh 2 2;home;sale 0 0;sale 1 10;home;sale 1 0;sale 2 20;"
            + "home;sale 0 0;sale 2 36;");
        dueIndex(ring, 1, 62, 5);
        dueIndex(ring, 2, 174, 5);
        dueOff(ring, 0, -12, 5);
        dueOff(ring, 1, -12, 5);
        dueOff(ring, 2, 6, 5);
        dueError(ring, 72, 5);
    }

    private static void lowestTerms() {
        CHECKS.sentence("All fractions are told in lowest terms, the lower number above 0 (0 is 0 by 1)");
        RepeatIndex x = Checks.of("months 3;home;sale 0 10;sale 1 7;home;sale 0 10;sale 1 6;home;sale 1 5;sale 2 8;");
        dueIndex(x, 0, 0, 1);
        dueIndex(x, 1, -7, 2);
        dueIndex(x, 2, -1, 2);
        dueOff(x, 0, 1, 2);
        dueOff(x, 1, -1, 2);
        dueOff(x, 2, 0, 1);
        dueError(x, 1, 2);
        due("without(0, 1)", -4, x.without(0, 1, false));
        due("without(0, 1) under", 1, x.without(0, 1, true));
        due("without(2, 2)", 0, x.without(2, 2, false));
        due("without(2, 2) under", 1, x.without(2, 2, true));
        due("revised(2, 0, 3, 1)", -5, x.revised(2, 0, 3, 1, false));
        due("revised(2, 0, 3, 1) under", 3, x.revised(2, 0, 3, 1, true));
        due("revised(2, 0, 5, 0) under", 1, x.revised(2, 0, 5, 0, true));
        // 2/4 and 4/4 as they come of four pairs.
        RepeatIndex four = Checks.of("months 2;home;sale 0 0;sale 1 0;home;sale 0 0;sale 1 0;home;sale 0 0;sale 1 1;"
            + "home;sale 0 0;sale 1 1;");
        dueIndex(four, 1, 1, 2);
        dueError(four, 1, 1);
        four.shift(3, 0);
        four.drop(3, 1);
        four.sale(3, 1, 3);
        dueIndex(four, 1, 1, 1);
        dueError(four, 6, 1);
    }

    private static void now() {
        CHECKS.sentence("now: 0 MONTHS, 1 HOMES, 2 SALES, 3 PAIRS, 4 PARTS, 5 what can be undone, 6 bytes of the tape");
        dueNow(new RepeatIndex(), 2, 0, 0, 0, 2, 0, 0);
        dueNow(Checks.of("months 8;"), 8, 0, 0, 0, 8, 0, 0);
        RepeatIndex most = Checks.of(Samples.most());
        for (int act = 0; act < 12; act++) {
            most.weigh(1, 1);
        }
        Checks.feed(most, Samples.blanks(540));
        dueNow(most, 8, 6, 18, 12, 1, 10, 540);
        RepeatIndex x = Checks.of(Samples.FOUR);
        x.home();
        Checks.feed(x, "abc");
        dueNow(x, 4, 4, 6, 3, 2, 1, 3);
        CHECKS.sentence("now: NONE for another what");
        for (int what : new int[] {LEAST, -7, -2, -1, 7, 8, 256, MOST}) {
            due("now(" + what + ")", -1, x.now(what));
        }
    }

    private static void dueNow(RepeatIndex x, int... want) {
        due("now(-1)", -1, x.now(-1));
        for (int what = 0; what < want.length; what++) {
            due("now(" + what + ")", want[what], x.now(what));
        }
        due("now(7)", -1, x.now(7));
    }

    private static void level() {
        CHECKS.sentence("level: LEVEL at which a HOME was sold in a MONTH. NONE: no such ones, it was not");
        RepeatIndex x = Checks.of("months 4;home;sale 0 0;sale 3 999;home;sale 1 1;home;");
        int[][] want = {{0, -1, -1, 999}, {-1, 1, -1, -1}, {-1, -1, -1, -1}};
        for (int home = -1; home <= 6; home++) {
            for (int month = -1; month <= 8; month++) {
                boolean there = home >= 0 && home < 3 && month >= 0 && month < 4;
                due("level(" + home + ", " + month + ")", there ? want[home][month] : -1, x.level(home, month));
            }
        }
        for (int far : FAR) {
            due("level(" + far + ", 0)", -1, x.level(far, 0));
            due("level(0, " + far + ")", -1, x.level(0, far));
            due("level of both", -1, x.level(far, far));
        }
    }

    private static void pair() {
        CHECKS.sentence("pair: Of a PAIR 0 its HOME, 1, 2 its MONTHS, 3 RISE, 4 WEIGHT");
        RepeatIndex x = Checks.of(Samples.FOUR);
        int[][] want = {{0, 0, 1, 10, 1}, {1, 1, 3, 30, 2}, {2, 0, 3, 30, 2}};
        for (int pair = -1; pair <= 3; pair++) {
            for (int what = -1; what <= 5; what++) {
                int p = pair;
                int w = what;
                boolean there = pair >= 0 && pair < 3 && what >= 0 && what < 5;
                due("pair(" + p + ", " + w + ")", there ? want[p][w] : Checks.THROWS, () -> x.pair(p, w));
            }
        }
        CHECKS.sentence("pair: NoSuchElementException: no such one, another what");
        for (int far : FAR) {
            dueThrows("pair(" + far + ", 0)", () -> x.pair(far, 0));
            dueThrows("pair(0, " + far + ")", () -> x.pair(0, far));
            dueThrows("pair of both", () -> x.pair(far, far));
        }
        x.drop(2, 3);
        due("pair(1, 0)", 1, () -> x.pair(1, 0));
        dueThrows("pair(2, 0) behind drop", () -> x.pair(2, 0));
        RepeatIndex full = Checks.of(Samples.soldTimes(18, 3));
        due("pair(14, 0)", 2, () -> full.pair(14, 0));
        dueThrows("pair(15, 0)", () -> full.pair(15, 0));
    }

    private static void part() {
        CHECKS.sentence("part: The first MONTH of the PART of a MONTH. NONE: no such one");
        for (int months = 2; months <= 8; months++) {
            RepeatIndex x = Checks.of("months " + months + ";home;sale 0 5;sale " + (months - 1) + " 5;");
            due("part(-1)", -1, x.part(-1));
            due("part of the last", 0, x.part(months - 1));
            due("part of one more", -1, x.part(months));
            for (int far : FAR) {
                due("part(" + far + ")", -1, x.part(far));
            }
        }
    }

    private static void index() {
        CHECKS.sentence("index: NoSuchElementException: no such MONTH");
        for (int months = 2; months <= 8; months++) {
            int last = months - 1;
            RepeatIndex x = Checks.of("months " + months + ";home;sale 0 5;sale " + last + " 9;");
            dueIndex(x, 0, 0, 1);
            dueIndex(x, last, 4, 1);
            for (boolean under : new boolean[] {false, true}) {
                dueThrows("index(-1)", () -> x.index(-1, under));
                dueThrows("index of one more", () -> x.index(last + 1, under));
                for (int far : FAR) {
                    dueThrows("index(" + far + ")", () -> x.index(far, under));
                }
            }
        }
    }

    private static void off() {
        CHECKS.sentence("off: OFF of a PAIR, likewise. NoSuchElementException: no such one");
        RepeatIndex x = Checks.of(Samples.FOUR);
        dueOff(x, 0, 5, 1);
        dueOff(x, 1, 5, 2);
        dueOff(x, 2, -5, 2);
        for (boolean under : new boolean[] {false, true}) {
            dueThrows("off(3)", () -> x.off(3, under));
            for (int far : FAR) {
                dueThrows("off(" + far + ")", () -> x.off(far, under));
            }
        }
        RepeatIndex none = Checks.of("months 2;home;sale 0 5;");
        dueThrows("off(0) without a PAIR", () -> none.off(0, true));
    }

    private static void error() {
        CHECKS.sentence("ERROR: that sum");
        dueError(new RepeatIndex(), 0, 1);
        dueError(Checks.of("months 2;home;sale 0 5;sale 1 99;"), 0, 1);
        dueError(Checks.of(Samples.FOUR), 50, 1);
        // The greatest: the same two months, up and down by 999, three homes each, weight 3: 6 * 3 * 999 * 999.
        StringBuilder text = new StringBuilder("months 2;weigh 1 3;");
        for (int home = 0; home < 6; home++) {
            text.append(home % 2 == 0 ? "home;sale 0 0;sale 1 999;" : "home;sale 0 999;sale 1 0;");
        }
        RepeatIndex x = Checks.of(text.toString());
        dueIndex(x, 1, 0, 1);
        dueError(x, 17964018, 1);
        for (int pair = 0; pair < 6; pair++) {
            dueOff(x, pair, pair % 2 == 0 ? 999 : -999, 1);
        }
    }

    private static void worst() {
        CHECKS.sentence("worst: The PAIR that is OFF the most either way");
        RepeatIndex above = Checks.of("months 2;home;sale 0 0;sale 1 10;home;sale 0 0;sale 1 11;home;sale 0 0;sale 1 30;");
        due("worst is above 0", 2, above.worst());
        RepeatIndex below = Checks.of("months 2;home;sale 0 0;sale 1 30;home;sale 0 0;sale 1 10;home;sale 0 0;sale 1 31;");
        due("worst is below 0", 1, below.worst());
        // OFF counts, not WEIGHT times its square: the light pair is off by more.
        RepeatIndex light = Checks.of("months 3;weigh 2 3;home;sale 0 0;sale 2 30;home;sale 0 0;sale 1 0;sale 2 0;");
        due("worst does not weigh", 1, light.worst());
        dueOff(light, 0, 30, 7);
        dueOff(light, 1, -90, 7);
    }

    private static void worstOfLikeOnes() {
        CHECKS.sentence("worst: of like ones the first");
        due("all are not OFF", 0, Checks.of("months 3;home;home;sale 0 5;sale 1 7;sale 2 9;").worst());
        due("one PAIR", 0, Checks.of("months 2;home;sale 0 5;sale 1 7;").worst());
        RepeatIndex first = Checks.of("months 3;home;sale 0 5;sale 1 7;home;sale 1 0;sale 2 10;home;sale 1 0;sale 2 20;");
        due("either way, the first is below 0", 1, first.worst());
        RepeatIndex other = Checks.of("months 3;home;sale 0 5;sale 1 7;home;sale 1 0;sale 2 20;home;sale 1 0;sale 2 10;");
        due("either way, the first is above 0", 1, other.worst());
    }

    private static void worstOfNone() {
        CHECKS.sentence("worst: NONE: there is none");
        due("new", -1, new RepeatIndex().worst());
        due("sales of several homes", -1, Checks.of("months 2;home;sale 0 5;home;sale 1 5;").worst());
        RepeatIndex x = Checks.of("months 2;home;sale 0 5;sale 1 5;");
        due("one", 0, x.worst());
        x.drop(0, 1);
        due("none behind drop", -1, x.worst());
        x.undo();
        due("one behind undo", 0, x.worst());
    }

    private static void without() {
        CHECKS.sentence("without: INDEX of a MONTH without the SALES of a HOME");
        RepeatIndex x = Checks.of("months 4;home;sale 0 10;sale 1 30;sale 3 90;home;sale 1 7;sale 3 47;home;home;sale 2 1;");
        long[][] want = {{0, 0, 0, 40}, {0, 20, 0, 80}, {0, 20, 0, 70}, {0, 20, 0, 70}};
        for (int home = 0; home < 4; home++) {
            for (int month = 0; month < 4; month++) {
                due("without(" + home + ", " + month + ")", want[home][month], x.without(home, month, false));
                due("without(" + home + ", " + month + ") under", 1, x.without(home, month, true));
            }
        }
        RepeatIndex lone = Checks.of("months 2;home;sale 0 10;sale 1 30;");
        due("without the only HOME", 0, lone.without(0, 1, false));
        due("without the only HOME, under", 1, lone.without(0, 1, true));
        due("its index stays", 20, lone.index(1, false));
    }

    private static void withoutWhatIsThere() {
        CHECKS.sentence("without: NoSuchElementException: no such ones");
        RepeatIndex x = Checks.of(Samples.FOUR);
        for (boolean under : new boolean[] {false, true}) {
            dueThrows("without(3, 0)", () -> x.without(3, 0, under));
            dueThrows("without(0, 4)", () -> x.without(0, 4, under));
            for (int far : FAR) {
                dueThrows("without(" + far + ", 0)", () -> x.without(far, 0, under));
                dueThrows("without(0, " + far + ")", () -> x.without(0, far, under));
            }
        }
        RepeatIndex none = new RepeatIndex();
        dueThrows("without(0, 0) without a HOME", () -> none.without(0, 0, false));
        RepeatIndex six = Checks.of(Samples.most());
        due("without(5, 0) under", 1, six.without(5, 0, true));
        dueThrows("without(6, 0)", () -> six.without(6, 0, true));
        due("without(0, 0) under", 1, six.without(0, 0, true));
        dueThrows("without(0, 8)", () -> six.without(0, 8, true));
    }

    private static void revised() {
        CHECKS.sentence("revised: INDEX of the MONTH at, were a HOME sold in another MONTH, too, at a LEVEL");
        RepeatIndex x = Checks.of("months 5;weigh 2 3;home;sale 1 100;sale 3 160;home;");
        long[][] want = {
            // Ahead of its first sale, at each end of LEVEL.
            {0, 0, 0, 3, 160}, {0, 0, 999, 3, -839}, {0, 0, 999, 1, -899}, {0, 0, 0, 0, 0},
            // Between its sales, behind them, and a HOME that was never sold.
            {0, 2, 0, 2, -100}, {0, 2, 999, 2, 899}, {0, 2, 7, 3, 60}, {0, 4, 0, 4, -100}, {0, 4, 999, 4, 899},
            {0, 4, 7, 1, 0}, {1, 2, 500, 2, 0}, {1, 2, 500, 3, 60},
        };
        for (long[] row : want) {
            int home = (int) row[0];
            int month = (int) row[1];
            int level = (int) row[2];
            int at = (int) row[3];
            String call = "revised(" + home + ", " + month + ", " + level + ", " + at + ")";
            due(call, row[4], x.revised(home, month, level, at, false));
            due(call + " under", 1, x.revised(home, month, level, at, true));
        }
        // A pair that is cut in two has two weights of its own: 1 each instead of 3.
        RepeatIndex cut = Checks.of("months 3;weigh 2 3;home;sale 0 0;sale 2 20;home;sale 0 0;sale 1 4;home;sale 1 0;sale 2 4;");
        due("revised(0, 1, 8, 1)", 6, cut.revised(0, 1, 8, 1, false));
        due("revised(0, 1, 8, 2)", 14, cut.revised(0, 1, 8, 2, false));
        due("index(2) stays", 128, cut.index(2, false));
        due("index(2) stays, under", 7, cut.index(2, true));
    }

    private static void revisedWhatIsThere() {
        CHECKS.sentence("revised: NoSuchElementException: no such MONTH at, what sale() would answer with NONE");
        RepeatIndex x = Checks.of(Samples.FOUR);
        for (boolean under : new boolean[] {false, true}) {
            due("revised(0, 2, 999, 3) under", 2, x.revised(0, 2, 999, 3, true));
            dueThrows("at 4", () -> x.revised(0, 2, 120, 4, under));
            dueThrows("home 3", () -> x.revised(3, 2, 120, 0, under));
            dueThrows("month 4", () -> x.revised(0, 4, 120, 0, under));
            dueThrows("sold in 0", () -> x.revised(0, 0, 120, 0, under));
            dueThrows("sold in 0 at the same level", () -> x.revised(0, 0, 100, 0, under));
            dueThrows("sold in 3", () -> x.revised(2, 3, 120, 0, under));
            dueThrows("level 1000", () -> x.revised(0, 2, 1000, 0, under));
            dueThrows("level -1", () -> x.revised(0, 2, -1, 0, under));
            for (int far : FAR) {
                dueThrows("at " + far, () -> x.revised(0, 2, 120, far, under));
                dueThrows("home " + far, () -> x.revised(far, 2, 120, 0, under));
                dueThrows("month " + far, () -> x.revised(0, far, 120, 0, under));
                dueThrows("level " + far, () -> x.revised(0, 2, far, 0, under));
            }
        }
    }

    private static void revisedWithEighteen() {
        CHECKS.sentence("revised: (that there are 18 SALES is nothing here)");
        for (int sales = 17; sales <= 18; sales++) {
            RepeatIndex x = Checks.of(Samples.soldTimes(sales, 3));
            due("SALES", sales, x.now(2));
            // Two homes hold still from month to month; the third one's last pair, of rise 5, pulls against them.
            due("revised", sales == 17 ? 35 : 15, x.revised(2, 7, 12, 7, false));
            due("revised under", sales == 17 ? 9 : 4, x.revised(2, 7, 12, 7, true));
            due("SALES then", sales, x.now(2));
            dueThrows("level 1000", () -> x.revised(2, 7, 1000, 7, false));
            dueThrows("sold in it", () -> x.revised(2, 0, 5, 7, false));
            dueThrows("home 3", () -> x.revised(3, 7, 5, 7, false));
            dueThrows("at 8", () -> x.revised(2, 7, 5, 8, false));
        }
    }

    private static void worthFromTheLatest() {
        CHECKS.sentence("WORTH of a HOME in a MONTH: from its latest SALE in or ahead of that MONTH (without one its first behind it)");
        // Home 0 makes the index 0, 10, 30, 60, 100, 150; home 1 is sold in 2 and 4 with the same rise of 70.
        RepeatIndex x = Checks.of("months 6;home;sale 0 0;sale 1 10;sale 2 30;sale 3 60;sale 4 100;sale 5 150;"
            + "home;sale 4 570;sale 2 500;home;sale 3 800;");
        int[] one = {470, 480, 500, 530, 570, 620};
        int[] lone = {740, 750, 770, 800, 840, 890};
        for (int month = 0; month < 6; month++) {
            due("worth(1, " + month + ")", one[month], x.worth(1, month));
            due("worth(2, " + month + ")", lone[month], x.worth(2, month));
        }
        // Sales that are off: each month goes by its own sale, not by the one next to it.
        RepeatIndex off = Checks.of("months 4;home;sale 1 0;sale 2 9;home;sale 1 100;sale 2 103;home;sale 0 0;sale 1 0;"
            + "sale 2 6;sale 3 6;");
        due("in its first sale's month", 100, off.worth(1, 1));
        due("in its latest sale's month", 103, off.worth(1, 2));
        due("behind its latest", 103, off.worth(1, 3));
        due("ahead of its first", 100, off.worth(1, 0));
    }

    private static void worthCutDown() {
        CHECKS.sentence("WORTH: cut down to a whole number not above it");
        // The index of month 1 is the middle of two rises: half numbers on either side of 0.
        int[][] cases = {{5, 6, 5}, {6, 6, 6}, {0, 1, 0}, {0, 0, 0}, {0, -1, -1}, {-1, -1, -1}, {-1, -2, -2}, {-5, -6, -6}};
        for (int[] row : cases) {
            String text = "months 2;home;sale 0 500;sale 1 " + (500 + row[0]) + ";home;sale 0 500;sale 1 " + (500 + row[1])
                + ";home;sale 0 0;home;sale 1 0;";
            RepeatIndex x = Checks.of(text);
            due("worth in month 1 of " + text, row[2], x.worth(2, 1));
            due("worth in its own month", 0, x.worth(2, 0));
            due("worth in month 0 of " + text, Math.floorDiv(-row[0] - row[1], 2), x.worth(3, 0));
        }
        // The greatest and the least: five pairs of 999 one behind the other, a sixth home's sale at an end.
        RepeatIndex up = Checks.of("months 8;home;sale 0 0;sale 1 999;home;sale 1 0;sale 2 999;home;sale 2 0;sale 3 999;"
            + "home;sale 3 0;sale 4 999;home;sale 4 0;sale 5 999;home;sale 0 999;");
        due("greatest", 5 * 999 + 999, up.worth(5, 5));
        RepeatIndex down = Checks.of("months 8;home;sale 0 999;sale 1 0;home;sale 1 999;sale 2 0;home;sale 2 999;sale 3 0;"
            + "home;sale 3 999;sale 4 0;home;sale 4 999;sale 5 0;home;sale 0 0;");
        due("least", -5 * 999, down.worth(5, 5));
    }

    private static void worthOfTwoParts() {
        CHECKS.sentence("worth: NONE - 99999: ... the MONTHS are of two PARTS");
        RepeatIndex x = Checks.of("months 6;home;sale 1 5;sale 3 9;home;sale 3 70;sale 4 80;home;sale 4 7;sale 0 1;home;sale 2 3;");
        // The index is 0, -8, 0, -4, 6, 0; months 2 and 5 hang alone.
        int[][] want = {
            {13, 5, NO_WORTH, 9, 19, NO_WORTH}, {74, 66, NO_WORTH, 70, 80, NO_WORTH}, {1, -7, NO_WORTH, -3, 7, NO_WORTH},
            {NO_WORTH, NO_WORTH, 3, NO_WORTH, NO_WORTH, NO_WORTH},
        };
        for (int home = 0; home < 4; home++) {
            for (int month = 0; month < 6; month++) {
                due("worth(" + home + ", " + month + ")", want[home][month], x.worth(home, month));
            }
        }
        // The latest sale counts even if only another one is of the month's part.
        RepeatIndex split = Checks.of("months 4;home;sale 0 5;sale 1 6;home;sale 2 7;sale 3 8;home;sale 0 50;");
        due("ahead", 51, split.worth(2, 1));
        due("of two PARTS", NO_WORTH, split.worth(2, 2));
        due("behind, of two PARTS", NO_WORTH, split.worth(1, 1));
    }

    private static void worthOfNone() {
        CHECKS.sentence("worth: NONE - 99999: no such ones, it was never sold");
        RepeatIndex x = Checks.of(Samples.FOUR + "home;");
        for (int month = -1; month <= 4; month++) {
            due("never sold", NO_WORTH, x.worth(3, month));
            due("home -1", NO_WORTH, x.worth(-1, month));
            due("home 4", NO_WORTH, x.worth(4, month));
        }
        for (int home = 0; home < 3; home++) {
            due("month -1", NO_WORTH, x.worth(home, -1));
            due("month 4", NO_WORTH, x.worth(home, 4));
        }
        for (int far : FAR) {
            due("worth(" + far + ", 0)", NO_WORTH, x.worth(far, 0));
            due("worth(0, " + far + ")", NO_WORTH, x.worth(0, far));
        }
        x.sale(3, 0, 9);
        due("sold", 9, x.worth(3, 0));
        x.undo();
        due("never sold again", NO_WORTH, x.worth(3, 0));
    }
}
