/** The edges of promises 1 to 5, sentence by sentence: a new object, feed, end, text, fault. */
public final class TapeEdgesTest {
    private static final int LEAST = Integer.MIN_VALUE;
    private static final int MOST = Integer.MAX_VALUE;
    private static final Checks CHECKS = new Checks();

    public static void main(String[] args) {
        twoMonths();
        nothingElse();
        emptyTape();
        highestFirst();
        howManyItHas();
        notAboveFiveHundredForty();
        noneCome();
        firstBytesAlone();
        notSoMany();
        howManyLines();
        placeOfAFault();
        emptyEvenWithAFault();
        allStays();
        isTheNewText();
        kindOfTheLatest();
        aheadOfAny();
        CHECKS.finish();
    }

    private static void due(String what, long want, long got) {
        CHECKS.due(what, want, got);
    }

    private static void due(String what, long want, boolean got) {
        CHECKS.due(what, want, got);
    }

    private static void dueThrows(String what, Checks.Call call) {
        CHECKS.due(what, Checks.THROWS, call);
    }

    private static RepeatIndex fed(String text) {
        RepeatIndex x = new RepeatIndex();
        due("feed of " + text, 1, Checks.feed(x, text));
        return x;
    }

    private static int give(RepeatIndex x, String text) {
        due("feed of " + text, 1, Checks.feed(x, text));
        return x.text();
    }

    private static void twoMonths() {
        CHECKS.sentence("RepeatIndex(): Two MONTHS");
        RepeatIndex x = new RepeatIndex();
        due("now(0)", 2, x.now(0));
        due("now(4)", 2, x.now(4));
        int[] parts = {-1, 0, 1, -1};
        for (int month = -1; month <= 2; month++) {
            int asked = month;
            boolean there = month == 0 || month == 1;
            due("part(" + month + ")", parts[month + 1], x.part(month));
            CHECKS.due("index(" + month + ")", there ? 0 : Checks.THROWS, () -> x.index(asked, false));
            CHECKS.due("index(" + month + ") under", there ? 1 : Checks.THROWS, () -> x.index(asked, true));
        }
        due("weigh(1, 1)", 0, x.weigh(1, 1));
        due("weigh(2, 1)", -1, x.weigh(2, 1));
        due("home()", 0, x.home());
        due("sale(0, 2, 5)", -1, x.sale(0, 2, 5));
        due("sale(0, 1, 5)", 1, x.sale(0, 1, 5));
    }

    private static void nothingElse() {
        CHECKS.sentence("RepeatIndex(): Two MONTHS, nothing else");
        RepeatIndex x = new RepeatIndex();
        int[] now = {2, 0, 0, 0, 2, 0, 0};
        for (int what = 0; what < now.length; what++) {
            due("now(" + what + ")", now[what], x.now(what));
        }
        for (int month = -1; month <= 2; month++) {
            due("level(0, " + month + ")", -1, x.level(0, month));
            due("worth(0, " + month + ")", -100000, x.worth(0, month));
            due("drop(0, " + month + ")", -1, x.drop(0, month));
        }
        dueThrows("pair(0, 0)", () -> x.pair(0, 0));
        dueThrows("off(0)", () -> x.off(0, false));
        dueThrows("without(0, 0)", () -> x.without(0, 0, false));
        dueThrows("revised(0, 0, 5, 0)", () -> x.revised(0, 0, 5, 0, false));
        due("error", 0, x.error(false));
        due("error under", 1, x.error(true));
        due("worst", -1, x.worst());
        due("shift(0, 0)", -1, x.shift(0, 0));
        due("undo", -1, x.undo());
        due("fault", 0, x.fault());
        due("NONE", -1, RepeatIndex.NONE);
    }

    private static void emptyTape() {
        CHECKS.sentence("RepeatIndex(): an empty tape");
        RepeatIndex x = new RepeatIndex();
        due("now(6)", 0, x.now(6));
        due("end(1)", 0, x.end(1));
        due("end(0)", 1, x.end(0));
        due("text of an empty tape", -1, x.text());
        due("fault", 1, x.fault());
    }

    private static void highestFirst() {
        CHECKS.sentence("Twenty bytes come behind the tape, of each number the highest first");
        RepeatIndex x = new RepeatIndex();
        // "mont" "hs 2" ";hom" "e;sa" "le 1", then " 987" ";   " and blanks.
        due("feed", 20, x.feed(0x6d6f6e74, 0x68732032, 0x3b686f6d, 0x653b7361, 0x6c652031));
        due("feed", 40, x.feed(0x20393837, 0x3b202020, 0x20202020, 0x20202020, 0x20202020));
        due("text", 3, x.text());
        due("level", 987, x.level(0, 1));
        // A byte with its highest bit in each of the twenty places, of numbers below 0 too: no blank, no TOKEN.
        for (int place = 0; place < 20; place++) {
            StringBuilder text = new StringBuilder("\n".repeat(20));
            text.setCharAt(place, (char) (10 + 128));
            CHECKS.dueFault(text.toString(), place, 1);
            text.setCharAt(place, (char) 255);
            CHECKS.dueFault(text.toString(), place, 1);
            text.setCharAt(place, (char) 0);
            CHECKS.dueFault(text.toString(), place, 1);
        }
        RepeatIndex ends = new RepeatIndex();
        due("feed of the least and the most", 20, ends.feed(LEAST, MOST, LEAST, MOST, 0));
        due("text of them", -1, ends.text());
    }

    private static void howManyItHas() {
        CHECKS.sentence("feed: how many it has");
        RepeatIndex x = new RepeatIndex();
        for (int count = 1; count <= 27; count++) {
            due("feed " + count, 20 * count, x.feed(count, -count, 0, LEAST, MOST));
            due("now(6)", 20 * count, x.now(6));
        }
        for (int had : new int[] {0, 1, 19, 20, 21, 500, 519, 520}) {
            RepeatIndex cut = fed(" ".repeat(540));
            due("end(" + had + ")", 1, cut.end(had));
            due("feed behind " + had, had + 20, cut.feed(0, 0, 0, 0, 0));
        }
    }

    private static void notAboveFiveHundredForty() {
        CHECKS.sentence("feed: NONE, and none come, if it would have more than 540");
        for (int had : new int[] {518, 519, 520, 521, 522, 539, 540}) {
            RepeatIndex x = fed(Samples.padded(Samples.FOUR, 540));
            due("end(" + had + ")", 1, x.end(had));
            due("feed behind " + had, had <= 520 ? had + 20 : -1, x.feed(0, 0, 0, 0, 0));
            due("now(6)", had <= 520 ? had + 20 : had, x.now(6));
        }
    }

    private static void noneCome() {
        CHECKS.sentence("feed: none come");
        for (int had : new int[] {521, 540}) {
            RepeatIndex x = fed(Samples.padded(Samples.FOUR, 540));
            x.end(had);
            for (int turn = 0; turn < 3; turn++) {
                due("feed behind " + had, -1, x.feed(MOST, MOST, MOST, MOST, MOST));
                due("now(6)", had, x.now(6));
            }
            due("end(500)", 1, x.end(500));
            due("text of the first 500", 11, x.text());
            due("level(2, 3)", 80, x.level(2, 3));
        }
    }

    private static void firstBytesAlone() {
        CHECKS.sentence("end: The tape has its first n bytes alone: true");
        String text = "months 5;home;home;???";
        int[] lengths = {0, 6, 8, 9, 10, 13, 14, 19, 20, 22};
        int[] answers = {-1, -7, -9, 1, -10, -14, 2, 3, -20, -20};
        for (int cut = 0; cut < lengths.length; cut++) {
            RepeatIndex x = fed(text);
            due("end(" + lengths[cut] + ")", 1, x.end(lengths[cut]));
            due("now(6)", lengths[cut], x.now(6));
            due("end again", 1, x.end(lengths[cut]));
            due("text of " + lengths[cut], answers[cut], x.text());
        }
        // What was cut off does not come again; new bytes come right behind the cut.
        RepeatIndex x = fed(text);
        due("end(14)", 1, x.end(14));
        due("end(19)", 0, x.end(19));
        due("feed", 34, x.feed(0x73616c65, 0x20342037, 0x3b202020, 0x20202020, 0x20202020));
        due("text", 3, x.text());
        due("homes", 1, x.now(1));
        due("level", 7, x.level(0, 4));
    }

    private static void notSoMany() {
        CHECKS.sentence("end: false, if it has not so many, or n is below 0");
        for (int had : new int[] {0, 1, 19, 20, 539, 540}) {
            RepeatIndex x = fed(Samples.blanks(had));
            for (int n : new int[] {had + 1, had + 2, 541, 560, MOST, -1, -2, -had - 1, LEAST}) {
                due("end(" + n + ") of " + had, 0, x.end(n));
                due("now(6)", had, x.now(6));
            }
            due("end(" + had + ")", 1, x.end(had));
            due("now(6)", had, x.now(6));
            if (had > 0) {
                due("end(" + (had - 1) + ")", 1, x.end(had - 1));
                due("now(6)", had - 1, x.now(6));
                due("end(" + had + ") then", 0, x.end(had));
            }
        }
    }

    private static void howManyLines() {
        CHECKS.sentence("text: is a TEXT: how many LINES");
        CHECKS.dueText("months 2;", 1, 0);
        CHECKS.dueText("months 2\n;\n\n\n", 1, 0);
        CHECKS.dueText("months 2;home;", 2, 0);
        CHECKS.dueText("months 2;weigh 1 1;home;home;sale 0 0;", 5, 0);
        CHECKS.dueText(Samples.most(), 32, 0);
    }

    private static void placeOfAFault() {
        CHECKS.sentence("text: -1 less the place of a FAULT");
        CHECKS.dueText("?", -1, 1);
        CHECKS.dueText(" ?", -2, 1);
        CHECKS.dueText(Samples.placed("", 499, "?"), -500, 1);
        CHECKS.dueText(Samples.placed("", 500, "?"), -501, 1);
        CHECKS.dueText(Samples.placed("", 539, "?"), -501, 1);
    }

    private static void emptyEvenWithAFault() {
        CHECKS.sentence("text: The tape (empty then, even with a FAULT)");
        for (String text : new String[] {"months 3;", "months 9;", "?", "", Samples.padded("months 3;", 540)}) {
            RepeatIndex x = fed(text);
            x.text();
            due("now(6) behind " + text, 0, x.now(6));
            due("end(1)", 0, x.end(1));
            due("end(0)", 1, x.end(0));
            due("text again", -1, x.text());
            due("fault again", 1, x.fault());
            due("feed", 20, x.feed(0x6d6f6e74, 0x68732037, 0x3b202020, 0x20202020, 0x20202020));
            due("text of the new bytes alone", 1, x.text());
            due("months", 7, x.now(0));
        }
    }

    private static void allStays() {
        CHECKS.sentence("text: -1 less the place of a FAULT: all stays");
        RepeatIndex x = Checks.of(Samples.FOUR);
        x.shift(0, 5);
        String[] spoilt = {"months 8;weigh 2 1;home;sale 0 1;sale 7 9;home;home;home;home;home;home;", "months 9;", "",
            "months 2;weigh 1 3;?", "months 2;home;sale 0 7;sale 1 9;home;sale 0 4;sale 1 1000;"};
        for (String text : spoilt) {
            due("is a FAULT: " + text, 1, give(x, text) < 0);
            int[] now = {4, 3, 6, 3, 2, 1, 0};
            for (int what = 0; what < now.length; what++) {
                due("now(" + what + ")", now[what], x.now(what));
            }
            due("level(0, 0)", 105, x.level(0, 0));
            due("level(2, 3)", 80, x.level(2, 3));
            due("weight", 2, x.pair(1, 4));
            due("index", 65, x.index(3, false));
        }
        due("undo", 0, x.undo());
        due("level(0, 0)", 100, x.level(0, 0));
        due("weigh", 2, x.weigh(2, 1));
    }

    private static void isTheNewText() {
        CHECKS.sentence("A new TEXT");
        RepeatIndex x = Checks.of(Samples.most());
        due("sales", 18, x.now(2));
        due("index asked ahead", 1, x.index(7, true) > 0);
        due("a text without homes", 1, give(x, "months 8;"));
        int[] now = {8, 0, 0, 0, 8, 0, 0};
        for (int what = 0; what < now.length; what++) {
            due("now(" + what + ")", now[what], x.now(what));
        }
        for (int gap = 1; gap <= 7; gap++) {
            due("weigh(" + gap + ", 0)", 0, x.weigh(gap, 0));
        }
        due("home", 0, x.home());
        for (int month = 0; month < 8; month++) {
            due("level(0, " + month + ")", -1, x.level(0, month));
            due("index(" + month + ")", 0, x.index(month, false));
            due("part(" + month + ")", month, x.part(month));
        }
        due("two months", 3, give(x, "months 2;home;sale 1 7;"));
        due("part(2)", -1, x.part(2));
        due("sale(0, 2, 5)", -1, x.sale(0, 2, 5));
        due("eight months", 2, give(x, "months 8;home;"));
        due("level(0, 1)", -1, x.level(0, 1));
    }

    private static void kindOfTheLatest() {
        CHECKS.sentence("fault: The kind of the FAULT of the latest text(); 0 without one");
        RepeatIndex x = new RepeatIndex();
        String[] texts = {"months 9;", "?", "months 2;" + Samples.homes(7), "months 3;", "", "months 3;home;"};
        int[] kinds = {2, 1, 3, 0, 1, 0};
        for (int text = 0; text < texts.length; text++) {
            int before = x.fault();
            Checks.feed(x, texts[text]);
            due("fault behind feed and end", before, x.fault());
            x.text();
            due("fault of " + texts[text], kinds[text], x.fault());
            due("fault asked again", kinds[text], x.fault());
        }
        Checks.feed(x, "months 9;");
        x.text();
        x.home();
        x.sale(1, 0, 5);
        x.weigh(1, 1);
        due("fault behind acts", 2, x.fault());
        x.undo();
        x.undo();
        x.undo();
        due("fault behind undo", 2, x.fault());
        x.end(5);
        x.undo();
        due("fault behind refused calls", 2, x.fault());
    }

    private static void aheadOfAny() {
        CHECKS.sentence("fault: 0 ... ahead of any");
        RepeatIndex x = new RepeatIndex();
        due("fault", 0, x.fault());
        Checks.feed(x, "?");
        due("fault behind feed", 0, x.fault());
        x.home();
        x.sale(0, 5, 5);
        due("fault behind acts", 0, x.fault());
        due("text", -1, x.text());
        due("fault", 1, x.fault());
    }
}
