/** Each promise by hand: ordinary inputs, the edges that the document names, wrong inputs. */
public final class PromisesTest {
    private static final int NO_WORTH = -100000;
    private static final String FOUR =
        "months 4;weigh 2 2;home;sale 0 100;sale 1 110;home;sale 1 200;sale 3 230;home;sale 0 50;sale 3 80;";
    private static final String EIGHT = "sale 0 5;sale 1 5;sale 2 5;sale 3 5;sale 4 5;sale 5 5;sale 6 5;sale 7 5;";
    private static final Checks CHECKS = new Checks();

    public static void main(String[] args) {
        newObject();
        feedAndEnd();
        texts();
        textsThatKeepAll();
        tokens();
        faultsOfNumbers();
        faultsOfOneMore();
        faultsOfLength();
        nowAndLevel();
        pairs();
        weights();
        parts();
        indexAndOff();
        leastSquares();
        worst();
        without();
        revised();
        worth();
        home();
        sale();
        drop();
        shift();
        weigh();
        undo();
        CHECKS.finish();
    }

    private static void due(String what, long want, Checks.Call call) {
        CHECKS.due(what, want, call);
    }

    private static void dueText(String text, int want, int fault) {
        CHECKS.dueText(text, want, fault);
    }

    private static void newObject() {
        RepeatIndex x = new RepeatIndex();
        int[] want = {2, 0, 0, 0, 2, 0, 0, -1};
        for (int what = 0; what < want.length; what++) {
            int asked = what;
            due("new: now(" + what + ")", want[what], () -> x.now(asked));
        }
        due("new: now(-1)", -1, () -> x.now(-1));
        due("new: fault", 0, () -> x.fault());
        due("new: undo", -1, () -> x.undo());
        due("new: worst", -1, () -> x.worst());
        due("new: error", 0, () -> x.error(false));
        due("new: error under", 1, () -> x.error(true));
        due("new: index(1)", 0, () -> x.index(1, false));
        due("new: index(1) under", 1, () -> x.index(1, true));
        due("new: index(2)", Checks.THROWS, () -> x.index(2, false));
        due("new: part(1)", 1, () -> x.part(1));
        due("new: weigh(1, 2)", 0, () -> x.weigh(1, 2));
        due("NONE", -1, RepeatIndex.NONE);
    }

    private static void due(String what, long want, long got) {
        CHECKS.due(what, want, got);
    }

    private static void feedAndEnd() {
        RepeatIndex x = new RepeatIndex();
        due("end(0) of an empty tape", 1, () -> x.end(0) ? 1 : 0);
        due("end(1) of an empty tape", 0, () -> x.end(1) ? 1 : 0);
        for (int count = 1; count <= 27; count++) {
            due("feed " + count, 20 * count, x.feed(1, 2, 3, 4, 5));
        }
        due("feed 28", -1, () -> x.feed(1, 2, 3, 4, 5));
        due("tape full", 540, () -> x.now(6));
        due("end(541)", 0, () -> x.end(541) ? 1 : 0);
        due("end(540)", 1, () -> x.end(540) ? 1 : 0);
        due("end(-1)", 0, () -> x.end(-1) ? 1 : 0);
        due("end(least)", 0, () -> x.end(Integer.MIN_VALUE) ? 1 : 0);
        due("tape still full", 540, () -> x.now(6));
        due("end(521)", 1, () -> x.end(521) ? 1 : 0);
        due("feed at 521", -1, () -> x.feed(0, 0, 0, 0, 0));
        due("end(520)", 1, () -> x.end(520) ? 1 : 0);
        due("feed at 520", 540, () -> x.feed(0, 0, 0, 0, 0));
        due("end(3)", 1, () -> x.end(3) ? 1 : 0);
        due("now(6) behind end(3)", 3, () -> x.now(6));
        due("feed behind end(3)", 23, () -> x.feed(0, 0, 0, 0, 0));
        x.end(0);
        due("feed two texts", 1, () -> Checks.feed(x, "months ") && Checks.feed(x, "3;home;") ? 1 : 0);
        due("text of both", 2, () -> x.text());
        due("months of both", 3, () -> x.now(0));
        Checks.feed(x, "months 2;home;");
        due("end within a word", 1, () -> x.end(12) ? 1 : 0);
        due("bytes behind the end are none of the text's", -10, () -> x.text());
        Checks.feed(x, "months 222;");
        due("end within a number", 1, () -> x.end(8) ? 1 : 0);
        due("the number is cut", 2, () -> Checks.feed(x, ";home;") ? x.text() : 0);
    }

    private static void texts() {
        dueText("months 2;", 1, 0);
        dueText("months 8;", 1, 0);
        dueText(FOUR, 11, 0);
        dueText("  months\n002\n;\n\n", 1, 0);
        dueText("months 3;weigh 2 3;weigh 1 1;home;home;sale 2 999;sale 0 0;", 7, 0);
        dueText("months 3 ; weigh 2 3 ; home ; sale 2 000 ; sale 01 12 ; home ; ", 6, 0);
        dueText("months 2;home;home;home;home;home;home;", 7, 0);
        dueText("months 8;home;" + EIGHT + "home;" + EIGHT + "home;sale 0 5;sale 1 5;", 22, 0);
    }

    private static void textsThatKeepAll() {
        RepeatIndex x = Checks.of(FOUR);
        x.home();
        Checks.feed(x, "months 2;home;sale 0 1;;");
        due("text with a fault at its end", -24, () -> x.text());
        due("fault", 1, () -> x.fault());
        due("months stay", 4, () -> x.now(0));
        due("homes stay", 4, () -> x.now(1));
        due("sales stay", 6, () -> x.now(2));
        due("acts stay", 1, () -> x.now(5));
        due("tape is empty", 0, () -> x.now(6));
        due("index stays", 65, () -> x.index(3, false));
        Checks.feed(x, "months 5;");
        due("a new text", 1, () -> x.text());
        due("fault gone", 0, () -> x.fault());
        due("months are new", 5, () -> x.now(0));
        due("homes are new", 0, () -> x.now(1));
        due("sales are new", 0, () -> x.now(2));
        due("weights are new", 0, () -> x.weigh(2, 1));
        due("one act", 1, () -> x.now(5));
        due("text of an empty tape", -1, () -> x.text());
        due("act stays", 1, () -> x.now(5));
        Checks.feed(x, "months 5;");
        due("same text", 1, () -> x.text());
        due("no acts", 0, () -> x.now(5));
        due("nothing undone", -1, () -> x.undo());
    }

    private static void tokens() {
        dueText("", -1, 1);
        dueText(" ", -2, 1);
        dueText("months", -7, 1);
        dueText("months 2", -9, 1);
        dueText("months 2 \n", -11, 1);
        dueText("months2;", -1, 1);
        dueText("month 2;", -1, 1);
        dueText("Months 2;", -1, 1);
        dueText("mOnths 2;", -1, 1);
        dueText("months\t2;", -7, 1);
        dueText("months\r2;", -7, 1);
        dueText("months -2;", -8, 1);
        dueText("months 2x;", -8, 1);
        dueText("months 0002;", -8, 1);
        dueText("months 99999999999999999999;", -8, 1);
        dueText("months ;", -8, 1);
        dueText("months two;", -8, 1);
        dueText("months 2;;", -10, 1);
        dueText("months 2 2;", -10, 1);
        dueText("months 2;months 2;", -10, 1);
        dueText("months 2;weigh;", -15, 1);
        dueText("months 2;weigh 1;", -17, 1);
        dueText("months 2;weigh 1 1 1;", -20, 1);
        dueText("months 2;home;weigh 1 1;", -15, 1);
        dueText("months 2;weigh 1 1;sale 0 1;", -20, 1);
        dueText("months 2;home 1;", -15, 1);
        dueText("months 2;home;sale;", -19, 1);
        dueText("months 2;home;sale 0;", -21, 1);
        dueText("months 2;home;sale 0 1000;", -22, 1);
        dueText("months 2;home;sale 0 1", -23, 1);
        dueText("months 2;home;sale 0 1 1;", -24, 1);
        dueText("months 2;home;sales 0 1;", -15, 1);
        dueText("months 2;\u0000", -10, 1);
        dueText("months 2;" + (char) 255, -10, 1);
        dueText("months 2;home;" + (char) 225 + "ale 0 1;", -15, 1);
        dueText("months 2" + (char) ('2' + 128) + ";", -9, 1);
    }

    private static void faultsOfNumbers() {
        dueText("months 0;", -8, 2);
        dueText("months 1;", -8, 2);
        dueText("months 9;", -8, 2);
        dueText("months 999", -8, 2);
        dueText("months 2;weigh 0 1;", -16, 2);
        dueText("months 2;weigh 2 1;", -16, 2);
        dueText("months 3;weigh 2 1;", 2, 0);
        dueText("months 2;weigh 1 0;", -18, 2);
        dueText("months 2;weigh 1 4;", -18, 2);
        dueText("months 2;weigh 1 3;weigh 01 9;", -26, 2);
        dueText("months 2;weigh 1 3;weigh 2 9;", -26, 2);
        dueText("months 8;weigh 8 1;", -16, 2);
        dueText("months 2;home;sale 2 5;", -20, 2);
        dueText("months 8;home;sale 8 1000;", -20, 2);
        dueText("months 2;home;sale 1 5;sale 1 ;", -29, 2);
        dueText("months 2;home;sale 1 5;home;sale 1 5;", 5, 0);
    }

    private static void faultsOfOneMore() {
        String six = "months 2;home;home;home;home;home;home;";
        dueText(six + "home", -40, 3);
        dueText(six + "home5", -40, 1);
        dueText(six + "weigh", -40, 1);
        String full = "months 8;home;" + EIGHT + "home;" + EIGHT + "home;sale 0 5;sale 1 5;";
        dueText(full + "sale 1000", -1 - full.length(), 3);
        dueText(full + "home;sale 9 9;", -1 - full.length() - 5, 3);
        dueText(full + "sale1", -1 - full.length(), 1);
    }

    private static void faultsOfLength() {
        String blanks = " ".repeat(540);
        String text = "months 2;home;";
        dueText(text + blanks.substring(0, 486), 2, 0);
        dueText(text + blanks.substring(0, 487), -501, 1);
        dueText(blanks.substring(0, 500), -501, 1);
        dueText(blanks, -501, 1);
        dueText(blanks.substring(0, 499) + "m".repeat(41), -500, 1);
        dueText("7".repeat(540), -1, 1);
        dueText(blanks.substring(0, 491) + "months 2;", 1, 0);
        dueText(blanks.substring(0, 492) + "months 2;", -501, 1);
        dueText(blanks.substring(0, 492) + "months 1;", -500, 2);
        dueText(blanks.substring(0, 493) + "months 1;", -501, 1);
        dueText(blanks.substring(0, 490) + "months 2" + "22", -498, 2);
        dueText(blanks.substring(0, 492) + "months 2222;", -500, 1);
        dueText(blanks.substring(0, 499) + "months 2;", -501, 1);
        dueText(blanks.substring(0, 499) + "month 2;", -500, 1);
        dueText(blanks.substring(0, 500) + "?", -501, 1);
        dueText(blanks.substring(0, 499) + "??", -500, 1);
        dueText("months 1;" + blanks.substring(0, 520), -8, 2);
        dueText("months 2" + blanks.substring(0, 520), -501, 1);
        String six = "months 2;home;home;home;home;home;home;";
        dueText(six + blanks.substring(0, 499 - six.length()) + "home;", -500, 3);
        dueText(six + blanks.substring(0, 499 - six.length()) + "homes;", -500, 1);
    }

    private static void nowAndLevel() {
        RepeatIndex x = Checks.of(FOUR);
        int[] want = {4, 3, 6, 3, 2, 0, 0};
        for (int what = 0; what < want.length; what++) {
            due("now(" + what + ")", want[what], x.now(what));
        }
        due("level(0, 1)", 110, () -> x.level(0, 1));
        due("level(0, 2)", -1, () -> x.level(0, 2));
        due("level(0, 4)", -1, () -> x.level(0, 4));
        due("level(0, -1)", -1, () -> x.level(0, -1));
        due("level(3, 0)", -1, () -> x.level(3, 0));
        due("level(-1, 3)", -1, () -> x.level(-1, 3));
        due("level(most, most)", -1, () -> x.level(Integer.MAX_VALUE, Integer.MAX_VALUE));
        RepeatIndex zero = Checks.of("months 2;home;sale 0 0;");
        due("level 0", 0, () -> zero.level(0, 0));
        due("PARTS of lone MONTHS", 2, () -> zero.now(4));
    }

    private static void pairs() {
        RepeatIndex x = Checks.of("months 5;home;sale 4 7;sale 0 9;sale 2 1;home;home;sale 1 3;sale 3 999;");
        int[][] want = {{0, 0, 2, -8, 1}, {0, 2, 4, 6, 1}, {2, 1, 3, 996, 1}};
        for (int pair = 0; pair < 3; pair++) {
            for (int what = 0; what < 5; what++) {
                int p = pair;
                int w = what;
                due("pair(" + p + ", " + w + ")", want[p][w], () -> x.pair(p, w));
            }
        }
        due("PAIRS", 3, () -> x.now(3));
        due("pair(3, 0)", Checks.THROWS, () -> x.pair(3, 0));
        due("pair(-1, 0)", Checks.THROWS, () -> x.pair(-1, 0));
        due("pair(0, 5)", Checks.THROWS, () -> x.pair(0, 5));
        due("pair(0, -1)", Checks.THROWS, () -> x.pair(0, -1));
        due("pair(42, 0)", Checks.THROWS, () -> x.pair(42, 0));
    }

    private static void weights() {
        RepeatIndex x = Checks.of("months 8;weigh 5 1;weigh 3 2;weigh 2 3;home;sale 0 1;sale 1 1;sale 3 1;sale 7 1;"
            + "home;sale 0 1;sale 5 1;home;sale 0 1;sale 7 1;home;sale 2 1;sale 5 1;");
        int[] want = {1, 3, 2, 1, 1, 2};
        for (int pair = 0; pair < want.length; pair++) {
            due("weight of pair " + pair, want[pair], x.pair(pair, 4));
        }
        due("weigh(5, 0)", 1, () -> x.weigh(5, 0));
        due("weight with the next lower gap", 2, () -> x.pair(3, 4));
        due("weigh(1, 3)", 0, () -> x.weigh(1, 3));
        due("weight of gap 1", 3, () -> x.pair(0, 4));
    }

    private static void parts() {
        RepeatIndex x = Checks.of("months 8;home;sale 6 1;sale 1 1;home;sale 4 1;sale 6 1;home;sale 7 1;sale 5 1;"
            + "home;sale 2 1;");
        int[] want = {0, 1, 2, 3, 1, 5, 1, 5};
        for (int month = 0; month < 8; month++) {
            due("part(" + month + ")", want[month], x.part(month));
        }
        due("PARTS", 5, () -> x.now(4));
        due("part(8)", -1, () -> x.part(8));
        due("part(-1)", -1, () -> x.part(-1));
        x.sale(3, 5, 9);
        x.sale(3, 4, 9);
        due("parts joined by later sales", 1, () -> x.part(7));
        due("PARTS then", 3, () -> x.now(4));
        due("part(2) then", 1, () -> x.part(2));
    }

    private static void indexAndOff() {
        RepeatIndex x = Checks.of(FOUR);
        long[][] index = {{0, 1}, {5, 1}, {0, 1}, {65, 2}};
        for (int month = 0; month < 4; month++) {
            due("index(" + month + ")", index[month][0], x.index(month, false));
            due("index(" + month + ") under", index[month][1], x.index(month, true));
        }
        long[][] off = {{5, 1}, {5, 2}, {-5, 2}};
        for (int pair = 0; pair < 3; pair++) {
            due("off(" + pair + ")", off[pair][0], x.off(pair, false));
            due("off(" + pair + ") under", off[pair][1], x.off(pair, true));
        }
        due("error", 50, () -> x.error(false));
        due("error under", 1, () -> x.error(true));
        due("index(4)", Checks.THROWS, () -> x.index(4, true));
        due("index(-1)", Checks.THROWS, () -> x.index(-1, false));
        due("off(3)", Checks.THROWS, () -> x.off(3, true));
        due("off(-1)", Checks.THROWS, () -> x.off(-1, false));
        RepeatIndex falling = Checks.of("months 3;home;sale 1 9;sale 2 2;");
        due("index below 0", -7, () -> falling.index(2, false));
        due("index below 0, under", 1, () -> falling.index(2, true));
        due("index of the part's first month", 0, () -> falling.index(1, false));
        due("off of a lone pair", 0, () -> falling.off(0, false));
        due("off of a lone pair, under", 1, () -> falling.off(0, true));
    }

    private static void leastSquares() {
        RepeatIndex x = Checks.of("months 3;weigh 1 3;weigh 2 2;home;sale 0 0;sale 1 10;sale 2 11;home;sale 0 5;"
            + "sale 2 20;home;sale 0 7;sale 1 9;");
        // Months 1 and 2: 9i - 3j = 33, 5j - 3i = 33.
        due("index(1)", 22, () -> x.index(1, false));
        due("index(1) under", 3, () -> x.index(1, true));
        due("index(2)", 11, () -> x.index(2, false));
        due("index(2) under", 1, () -> x.index(2, true));
        long[] tops = {8, -8, 4, -16};
        long[] unders = {3, 3, 1, 3};
        for (int pair = 0; pair < 4; pair++) {
            due("least squares: off(" + pair + ")", tops[pair], x.off(pair, false));
            due("least squares: off(" + pair + ") under", unders[pair], x.off(pair, true));
        }
        // 3 * 64/9 + 3 * 64/9 + 2 * 16 + 3 * 256/9 = 160.
        due("least squares: error", 160, () -> x.error(false));
        due("least squares: error under", 1, () -> x.error(true));
        due("least squares: worst", 3, () -> x.worst());
    }

    private static void worst() {
        RepeatIndex x = Checks.of("months 3;home;sale 0 5;sale 1 9;home;sale 1 10;sale 2 20;home;sale 1 10;sale 2 24;");
        due("first of like ones", 1, () -> x.worst());
        x.sale(0, 2, 23);
        due("worst is below 0", 2, () -> x.worst());
        RepeatIndex exact = Checks.of("months 3;home;home;sale 0 5;sale 1 9;sale 2 9;");
        due("worst of pairs that are not off", 0, () -> exact.worst());
        RepeatIndex none = Checks.of("months 3;home;sale 1 5;");
        due("worst without a pair", -1, () -> none.worst());
    }

    private static void without() {
        RepeatIndex x = Checks.of(FOUR);
        due("without(2, 3)", 40, () -> x.without(2, 3, false));
        due("without(2, 3) under", 1, () -> x.without(2, 3, true));
        due("without(0, 1)", 0, () -> x.without(0, 1, false));
        due("without(0, 3)", 30, () -> x.without(0, 3, false));
        due("without(1, 2)", 0, () -> x.without(1, 2, false));
        due("without(3, 0)", Checks.THROWS, () -> x.without(3, 0, false));
        due("without(-1, 0)", Checks.THROWS, () -> x.without(-1, 0, false));
        due("without(0, 4)", Checks.THROWS, () -> x.without(0, 4, false));
        due("without(0, -1)", Checks.THROWS, () -> x.without(0, -1, true));
        due("without changes no index", 65, () -> x.index(3, false));
        due("without changes no sales", 6, () -> x.now(2));
        due("without is no act", 0, () -> x.now(5));
        x.home();
        due("without a home that was never sold", 65, () -> x.without(3, 3, false));
    }

    private static void revised() {
        RepeatIndex x = Checks.of(FOUR);
        due("revised at 2", 15, () -> x.revised(0, 2, 120, 2, false));
        due("revised at 3", 65, () -> x.revised(0, 2, 120, 3, false));
        due("revised at 3 under", 2, () -> x.revised(0, 2, 120, 3, true));
        due("revised between two sales", 20, () -> x.revised(2, 2, 70, 1, false));
        due("revised between two sales, under", 3, () -> x.revised(2, 2, 70, 1, true));
        due("revised: sold in it", Checks.THROWS, () -> x.revised(0, 1, 120, 3, false));
        due("revised: no home", Checks.THROWS, () -> x.revised(3, 1, 120, 3, false));
        due("revised: home -1", Checks.THROWS, () -> x.revised(-1, 1, 120, 3, false));
        due("revised: no month", Checks.THROWS, () -> x.revised(0, 4, 120, 3, false));
        due("revised: month -1", Checks.THROWS, () -> x.revised(0, -1, 120, 3, false));
        due("revised: at 4", Checks.THROWS, () -> x.revised(0, 2, 120, 4, false));
        due("revised: at -1", Checks.THROWS, () -> x.revised(0, 2, 120, -1, false));
        due("revised: level 1000", Checks.THROWS, () -> x.revised(0, 2, 1000, 3, false));
        due("revised: level -1", Checks.THROWS, () -> x.revised(0, 2, -1, 3, false));
        due("revised: level 999", 894, () -> x.revised(0, 2, 999, 2, false));
        due("revised changes no sales", 6, () -> x.now(2));
        due("revised changes no index", 0, () -> x.index(2, false));
        RepeatIndex full = Checks.of("months 8;home;" + EIGHT + "home;" + EIGHT + "home;sale 0 5;sale 1 5;");
        due("revised with 18 sales", 3, () -> full.revised(2, 7, 6, 7, false));
        due("revised with 18 sales, under", 4, () -> full.revised(2, 7, 6, 7, true));
        due("sale with 18 sales", -2, () -> full.sale(2, 7, 6));
    }

    private static void worth() {
        RepeatIndex x = Checks.of(FOUR);
        due("worth cut down", 137, () -> x.worth(0, 3));
        due("worth in a month of a sale", 110, () -> x.worth(0, 1));
        due("worth from the first behind it", 195, () -> x.worth(1, 0));
        due("worth from the latest ahead of it", 55, () -> x.worth(2, 1));
        due("worth in another part", NO_WORTH, () -> x.worth(0, 2));
        due("worth: no home", NO_WORTH, () -> x.worth(3, 0));
        due("worth: home -1", NO_WORTH, () -> x.worth(-1, 0));
        due("worth: no month", NO_WORTH, () -> x.worth(0, 4));
        due("worth: month -1", NO_WORTH, () -> x.worth(0, -1));
        x.home();
        due("worth: never sold", NO_WORTH, () -> x.worth(3, 0));
        RepeatIndex low = Checks.of("months 2;home;sale 0 3;home;sale 0 9;sale 1 2;home;sale 0 9;sale 1 1;");
        due("worth below 0 cut down", -5, () -> low.worth(0, 1));
        RepeatIndex lone = Checks.of("months 2;home;sale 1 4;");
        due("worth of a lone sale", 4, () -> lone.worth(0, 1));
        due("worth of a lone sale elsewhere", NO_WORTH, () -> lone.worth(0, 0));
    }

    private static void home() {
        RepeatIndex x = new RepeatIndex();
        for (int home = 0; home < 6; home++) {
            due("home " + home, home, x.home());
        }
        due("seventh home", -2, () -> x.home());
        due("homes", 6, () -> x.now(1));
        due("acts", 6, () -> x.now(5));
        due("new home was not sold", -1, () -> x.level(5, 0));
        due("undo of a home", 5, () -> x.undo());
        due("homes behind undo", 5, () -> x.now(1));
        due("home again", 5, () -> x.home());
    }

    private static void sale() {
        RepeatIndex x = new RepeatIndex();
        due("sale without a home", -1, () -> x.sale(0, 0, 5));
        x.home();
        due("sale", 1, () -> x.sale(0, 1, 0));
        due("sale again", -1, () -> x.sale(0, 1, 0));
        due("sale: month 2", -1, () -> x.sale(0, 2, 0));
        due("sale: month -1", -1, () -> x.sale(0, -1, 0));
        due("sale: level -1", -1, () -> x.sale(0, 0, -1));
        due("sale: level 1000", -1, () -> x.sale(0, 0, 1000));
        due("sale: level 999", 2, () -> x.sale(0, 0, 999));
        due("rise of them", -999, () -> x.pair(0, 3));
        due("acts", 3, () -> x.now(5));
        RepeatIndex full = Checks.of("months 8;home;" + EIGHT + "home;" + EIGHT + "home;sale 0 5;");
        due("18th sale", 18, () -> full.sale(2, 1, 1));
        due("19th sale", -2, () -> full.sale(2, 2, 1));
        due("19th sale: home", -1, () -> full.sale(3, 2, 1));
        due("19th sale: month", -1, () -> full.sale(2, 8, 1));
        due("19th sale: sold in it", -1, () -> full.sale(2, 1, 1));
        due("19th sale: level", -1, () -> full.sale(2, 2, 1000));
        due("acts with 18 sales", 1, () -> full.now(5));
    }

    private static void drop() {
        RepeatIndex x = Checks.of(FOUR);
        due("drop: not sold in it", -1, () -> x.drop(0, 2));
        due("drop: no home", -1, () -> x.drop(3, 0));
        due("drop: home -1", -1, () -> x.drop(-1, 0));
        due("drop: month 4", -1, () -> x.drop(0, 4));
        due("drop: month -1", -1, () -> x.drop(1, -1));
        due("acts", 0, () -> x.now(5));
        due("drop", 5, () -> x.drop(0, 1));
        due("level behind drop", -1, () -> x.level(0, 1));
        due("drop again", -1, () -> x.drop(0, 1));
        due("pairs behind drop", 2, () -> x.now(3));
        due("homes behind drop", 3, () -> x.now(1));
        due("undo of drop", 0, () -> x.undo());
        due("level behind undo", 110, () -> x.level(0, 1));
    }

    private static void shift() {
        RepeatIndex x = Checks.of("months 3;home;sale 0 100;sale 2 300;home;home;sale 1 0;sale 2 999;");
        due("shift", 2, () -> x.shift(0, 699));
        due("level 0", 799, () -> x.level(0, 0));
        due("level 2", 999, () -> x.level(0, 2));
        due("rise stays", 200, () -> x.pair(0, 3));
        due("shift above 999", -1, () -> x.shift(0, 1));
        due("shift to 0", 2, () -> x.shift(0, -799));
        due("shift below 0", -1, () -> x.shift(0, -1));
        due("level 0 then", 0, () -> x.level(0, 0));
        due("shift of no sale", 0, () -> x.shift(1, 999));
        due("shift of no sale by -999", 0, () -> x.shift(1, -999));
        due("shift by 1000", -1, () -> x.shift(1, 1000));
        due("shift by -1000", -1, () -> x.shift(1, -1000));
        due("shift by the most", -1, () -> x.shift(1, Integer.MAX_VALUE));
        due("shift by the least", -1, () -> x.shift(1, Integer.MIN_VALUE));
        due("shift by 0", 2, () -> x.shift(2, 0));
        due("shift by 1", -1, () -> x.shift(2, 1));
        due("shift by -1", -1, () -> x.shift(2, -1));
        due("shift: no home", -1, () -> x.shift(3, 0));
        due("shift: home -1", -1, () -> x.shift(-1, 0));
        due("acts", 5, () -> x.now(5));
        for (int left = 4; left >= 0; left--) {
            due("undo of shifts", left, x.undo());
        }
        due("level behind undo", 100, () -> x.level(0, 0));
    }

    private static void weigh() {
        RepeatIndex x = Checks.of(FOUR);
        due("weigh(2, 3)", 2, () -> x.weigh(2, 3));
        due("weight", 3, () -> x.pair(1, 4));
        due("weigh(2, 0)", 3, () -> x.weigh(2, 0));
        due("weight without", 1, () -> x.pair(1, 4));
        due("weigh(3, 1)", 0, () -> x.weigh(3, 1));
        due("weigh(3, 1) again", 1, () -> x.weigh(3, 1));
        due("weigh(4, 1)", -1, () -> x.weigh(4, 1));
        due("weigh(0, 1)", -1, () -> x.weigh(0, 1));
        due("weigh(-1, 1)", -1, () -> x.weigh(-1, 1));
        due("weigh(1, 4)", -1, () -> x.weigh(1, 4));
        due("weigh(1, -1)", -1, () -> x.weigh(1, -1));
        due("acts", 4, () -> x.now(5));
        due("undo", 3, () -> x.undo());
        due("undo", 2, () -> x.undo());
        due("undo", 1, () -> x.undo());
        due("weight behind undo", 3, () -> x.pair(1, 4));
        due("undo", 0, () -> x.undo());
        due("index behind undo", 65, () -> x.index(3, false));
    }

    private static void undo() {
        RepeatIndex x = Checks.of("months 3;home;sale 0 0;sale 1 1;");
        for (int act = 1; act <= 13; act++) {
            due("act " + act, 2, x.shift(0, 1));
            due("kept " + act, Math.min(act, 10), x.now(5));
        }
        x.sale(0, 0, 5);
        x.shift(0, 1000);
        x.drop(0, 2);
        due("refused acts are not kept", 10, () -> x.now(5));
        due("undo of the latest", 9, () -> x.undo());
        due("level", 12, () -> x.level(0, 0));
        due("another act", 3, () -> x.sale(0, 2, 7));
        due("kept", 10, () -> x.now(5));
        for (int left = 9; left >= 0; left--) {
            due("undo to " + left, left, x.undo());
        }
        due("no more", -1, () -> x.undo());
        due("the first acts stay", 3, () -> x.level(0, 0));
        due("sale undone", -1, () -> x.level(0, 2));
        due("fault is not undone", 0, () -> x.fault());
    }
}
