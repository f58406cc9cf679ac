/** The edges of TOKENS, TEXT and FAULTS ("Terms", first part), sentence by sentence. */
public final class TextEdgesTest {
    private static final String[] WORDS = {"months", "weigh", "home", "sale"};
    private static final String HOME = "months 3;home;";
    private static final Checks CHECKS = new Checks();

    public static void main(String[] args) {
        blanks();
        everyByte();
        words();
        numbers();
        runsGoOn();
        length();
        order();
        months();
        gaps();
        gapsOnce();
        weights();
        homes();
        monthsOfSales();
        monthsOnce();
        levels();
        sales();
        firstAlongTheText();
        firstInTheList();
        atTheToken();
        theEnd();
        moreThanFiveHundred();
        tokensReadWhole();
        kindTwo();
        kindThree();
        CHECKS.finish();
    }

    private static void good(String text, int lines) {
        CHECKS.dueText(text, lines, 0);
    }

    private static void fault(String text, int place, int kind) {
        CHECKS.dueFault(text, place, kind);
    }

    private static void blanks() {
        CHECKS.sentence("TOKENS of a text, with blanks (32, 10) between them or not");
        good("months 3;weigh 1 2;home;sale 0 5;", 4);
        String[] tokens = {"months", "3", ";", "weigh", "1", "2", ";", "home", ";", "sale", "0", "5", ";"};
        for (String blank : new String[] {" ", "\n", "  ", "\n\n", " \n", "\n "}) {
            String text = String.join(blank, tokens);
            good(text, 4);
            good(blank + text, 4);
            good(text + blank, 4);
        }
        // Where no blank may be left out.
        fault("months3;", 0, 1);
        fault("months 3;weigh1 2;", 9, 1);
        fault("months 3;weigh 12;", 15, 2);
        fault(HOME + "sale0 5;", 14, 1);
        fault(HOME + "sale 05;", 19, 2);
    }

    /** Each byte in four places: which are blanks, letters, digits, the sign, and which are nothing. */
    private static void everyByte() {
        for (int sign = 0; sign < 256; sign++) {
            char c = (char) sign;
            boolean blank = sign == 32 || sign == 10;
            boolean letter = sign >= 97 && sign <= 122;
            boolean digit = sign >= 48 && sign <= 57;
            CHECKS.sentence("byte " + sign + ": blanks (32, 10); small letters; digits; the sign ;");
            CHECKS.dueText("months" + c + "2;", blank ? 1 : letter || digit ? -1 : -7, blank ? 0 : 1);
            CHECKS.dueText("months 2;" + c + "home;", blank ? 2 : -10, blank ? 0 : 1);
            CHECKS.dueText("months 2;" + c, blank ? 1 : -10, blank ? 0 : 1);
            CHECKS.dueText(c + "months 2;", blank ? 1 : -1, blank ? 0 : 1);
            int behindNumber = c == ';' ? 1 : blank ? -10 : letter || digit ? -8 : -9;
            CHECKS.dueText("months 2" + c, behindNumber, c == ';' ? 0 : digit ? 2 : 1);
        }
    }

    private static void words() {
        CHECKS.sentence("WORDS: small letters");
        String[] ahead = {"", "months 3;", "months 3;", HOME};
        String[] behind = {" 3;", " 1 1;", ";", " 1 1;"};
        int[] lines = {1, 2, 2, 3};
        for (int word = 0; word < WORDS.length; word++) {
            String told = WORDS[word];
            int place = ahead[word].length();
            good(ahead[word] + told + behind[word], lines[word]);
            fault(ahead[word] + told.substring(1) + behind[word], place, 1);
            fault(ahead[word] + told.substring(0, told.length() - 1) + behind[word], place, 1);
            fault(ahead[word] + told + "s" + behind[word], place, 1);
            fault(ahead[word] + "a" + told + behind[word], place, 1);
            fault(ahead[word] + told + told + behind[word], place, 1);
            for (int letter = 0; letter < told.length(); letter++) {
                char c = told.charAt(letter);
                String from = told.substring(0, letter);
                String to = told.substring(letter + 1);
                fault(ahead[word] + from + (char) (c + 1) + to + behind[word], place, 1);
                fault(ahead[word] + from + to + behind[word], place, 1);
                // A capital, and the letter with its highest bit, are no small letters: the run ends ahead of them.
                fault(ahead[word] + from + (char) (c - 32) + to + behind[word], place, 1);
                fault(ahead[word] + from + (char) (c + 128) + to + behind[word], place, 1);
            }
        }
    }

    private static void numbers() {
        CHECKS.sentence("NUMBERS: 1 to 3 digits");
        String[] ahead = {"months ", "months 3;weigh ", "months 3;weigh 1 ", HOME + "sale ", HOME + "sale 1 "};
        String[] behind = {";", " 1;", ";", " 5;", ";"};
        int[] lines = {1, 2, 2, 3, 3};
        for (int kind = 0; kind < ahead.length; kind++) {
            int place = ahead[kind].length();
            fault(ahead[kind] + ";", place, 1);
            good(ahead[kind] + "2" + behind[kind], lines[kind]);
            good(ahead[kind] + "02" + behind[kind], lines[kind]);
            good(ahead[kind] + "002" + behind[kind], lines[kind]);
            fault(ahead[kind] + "0002" + behind[kind], place, 1);
            fault(ahead[kind] + "0000000002" + behind[kind], place, 1);
            // 2 to the power of 32, and 2 more: a number that only seems to be 2.
            fault(ahead[kind] + "4294967298" + behind[kind], place, 1);
            fault(ahead[kind] + "-2" + behind[kind], place, 1);
            fault(ahead[kind] + "+2" + behind[kind], place, 1);
        }
    }

    private static void runsGoOn() {
        CHECKS.sentence("(A WORD, NUMBER goes on as long as small letters and digits do; what is not as told is no TOKEN.)");
        fault("months2;", 0, 1);
        fault("2months;", 0, 1);
        fault("mon2ths 2;", 0, 1);
        fault("months 2x;", 7, 1);
        fault("months x2;", 7, 1);
        fault("months 2home;", 7, 1);
        fault("months 2;home1;", 9, 1);
        fault("months 2;1home;", 9, 1);
        fault("months 2;homehome;", 9, 1);
        fault("months 2;homesale 0 5;", 9, 1);
        fault(HOME + "sale 1a 5;", 19, 1);
        fault(HOME + "sale 1 5a;", 21, 1);
        fault(HOME + "sale 1 5" + "z".repeat(300), 21, 1);
        // Another sign ends a run: the run is good, the sign is at fault.
        fault("months 2?;", 8, 1);
        fault("months?2;", 6, 1);
        good("months 2;home;home;", 3);
    }

    private static void length() {
        CHECKS.sentence("A TEXT has at most 500 bytes");
        String most = Samples.most();
        good(Samples.padded(most, 499), 32);
        good(Samples.padded(most, 500), 32);
        fault(Samples.padded(most, 501), 500, 1);
        fault(Samples.padded(most, 520), 500, 1);
        fault(Samples.padded(most, 540), 500, 1);
        good(Samples.placed("", 490, "months 2;"), 1);
        good(Samples.placed("", 491, "months 2;"), 1);
        fault(Samples.placed("", 492, "months 2;"), 500, 1);
    }

    private static void order() {
        CHECKS.sentence("'months' N ; { 'weigh' GAP WEIGHT ; } { 'home' ; { 'sale' MONTH LEVEL ; } }");
        good("months 3;", 1);
        good("months 3;weigh 1 1;", 2);
        good("months 3;home;", 2);
        good("months 3;weigh 1 1;weigh 2 1;home;sale 0 1;sale 1 1;home;home;sale 2 1;", 9);
        fault("", 0, 1);
        fault("weigh 1 1;", 0, 1);
        fault("home;", 0, 1);
        fault("sale 0 1;", 0, 1);
        fault(";", 0, 1);
        fault("3;", 0, 1);
        fault("months 3;months 3;", 9, 1);
        fault("months 3;sale 0 1;", 9, 1);
        fault("months 3;weigh 1 1;months 3;", 19, 1);
        fault("months 3;weigh 1 1;sale 0 1;", 19, 1);
        fault(HOME + "weigh 1 1;", 14, 1);
        fault(HOME + "months 3;", 14, 1);
        fault(HOME + "sale 0 1;weigh 1 1;", 23, 1);
        fault(HOME + "sale 0 1;months 3;", 23, 1);
        // Within a line: a token too few, one too many, another kind.
        fault("months;", 6, 1);
        fault("months months;", 7, 1);
        fault("months 3 3;", 9, 1);
        fault("months 3 home;", 9, 1);
        fault("months 3;weigh;", 14, 1);
        fault("months 3;weigh home;", 15, 1);
        fault("months 3;weigh 1;", 16, 1);
        fault("months 3;weigh 1 home;", 17, 1);
        fault("months 3;weigh 1 1 1;", 19, 1);
        fault("months 3;weigh 1 1 home;", 19, 1);
        fault("months 3;home 0;", 14, 1);
        fault("months 3;home home;", 14, 1);
        fault(HOME + "sale;", 18, 1);
        fault(HOME + "sale sale;", 19, 1);
        fault(HOME + "sale 0;", 20, 1);
        fault(HOME + "sale 0 sale;", 21, 1);
        fault(HOME + "sale 0 1 1;", 23, 1);
        fault(HOME + "sale 0 1 sale;", 23, 1);
        fault("months 3;;", 9, 1);
        fault("months 3;3;", 9, 1);
        fault(HOME + ";", 14, 1);
        fault(HOME + "3;", 14, 1);
        fault(HOME + "sale 0 1;;", 23, 1);
    }

    private static void months() {
        CHECKS.sentence("N 2 to 8");
        int[] told = {0, 1, 2, 3, 4, 5, 6, 7, 8, 9, 10, 12, 18, 20, 80, 99, 100, 200, 258, 264, 800, 998, 999};
        for (int n : told) {
            String text = "months " + n + ";";
            if (n >= 2 && n <= 8) {
                good(text, 1);
                CHECKS.due("MONTHS of " + text, n, Checks.of(text).now(0));
            } else {
                fault(text, 7, 2);
            }
        }
    }

    private static void gaps() {
        CHECKS.sentence("GAP 1 to N less 1");
        for (int n = 2; n <= 8; n++) {
            for (int gap = 0; gap <= 10; gap++) {
                String text = "months " + n + ";weigh " + gap + " 2;";
                if (gap >= 1 && gap <= n - 1) {
                    good(text, 2);
                    CHECKS.due("weigh of " + text, 2, Checks.of(text).weigh(gap, 1));
                } else {
                    fault(text, 15, 2);
                }
            }
        }
        fault("months 8;weigh 999 2;", 15, 2);
        fault("months 8;weigh 257 2;", 15, 2);
    }

    private static void gapsOnce() {
        CHECKS.sentence("GAP ... each once");
        good("months 8;weigh 7 1;weigh 1 2;weigh 6 3;weigh 2 1;weigh 5 2;weigh 3 3;weigh 4 1;", 8);
        fault("months 8;weigh 1 1;weigh 1 1;", 25, 2);
        fault("months 8;weigh 1 1;weigh 1 2;", 25, 2);
        fault("months 8;weigh 1 1;weigh 001 2;", 25, 2);
        fault("months 8;weigh 7 3;weigh 1 3;weigh 7 3;", 35, 2);
        fault("months 2;weigh 1 1;weigh 1 1;", 25, 2);
        for (int again = 1; again <= 7; again++) {
            String all = Samples.most().substring(0, Samples.most().indexOf("home"));
            good(all, 8);
            fault(all + "weigh " + again + " 1;", all.length() + 6, 2);
        }
    }

    private static void weights() {
        CHECKS.sentence("WEIGHT 1 to 3");
        for (int weight = 0; weight <= 12; weight++) {
            String text = "months 3;weigh 2 " + weight + ";";
            if (weight >= 1 && weight <= 3) {
                good(text, 2);
                CHECKS.due("weigh of " + text, weight, Checks.of(text).weigh(2, 0));
            } else {
                fault(text, 17, 2);
            }
        }
        fault("months 3;weigh 2 999;", 17, 2);
        fault("months 3;weigh 2 257;", 17, 2);
    }

    private static void homes() {
        CHECKS.sentence("6 HOMES at most, numbered from 0");
        for (int count = 0; count <= 6; count++) {
            String text = "months 2;" + Samples.homes(count);
            good(text, 1 + count);
            CHECKS.due("HOMES of " + text, count, Checks.of(text).now(1));
        }
        fault("months 2;" + Samples.homes(7), 39, 3);
        fault("months 2;" + Samples.homes(8), 39, 3);
        StringBuilder text = new StringBuilder("months 2;");
        for (int home = 0; home < 6; home++) {
            text.append("home;sale 1 ").append(10 + home).append(';');
        }
        RepeatIndex x = Checks.of(text.toString());
        for (int home = -1; home <= 6; home++) {
            CHECKS.due("level(" + home + ", 1)", home < 0 || home > 5 ? -1 : 10 + home, x.level(home, 1));
        }
    }

    private static void monthsOfSales() {
        CHECKS.sentence("MONTH 0 to N less 1");
        for (int n = 2; n <= 8; n++) {
            for (int month = 0; month <= 10; month++) {
                String text = "months " + n + ";home;sale " + month + " 7;";
                if (month <= n - 1) {
                    good(text, 3);
                    CHECKS.due("level of " + text, 7, Checks.of(text).level(0, month));
                } else {
                    fault(text, 19, 2);
                }
            }
        }
        fault("months 8;home;sale 999 7;", 19, 2);
        fault("months 8;home;sale 256 7;", 19, 2);
    }

    private static void monthsOnce() {
        CHECKS.sentence("MONTH ... once a HOME");
        good("months 8;home;" + Samples.sales(8, 5), 10);
        good("months 8;home;" + Samples.sales(8, 5) + "home;" + Samples.sales(8, 5), 19);
        fault("months 2;home;sale 0 5;sale 0 5;", 28, 2);
        fault("months 2;home;sale 0 5;sale 0 6;", 28, 2);
        fault("months 2;home;sale 0 0;sale 0 0;", 28, 2);
        fault("months 2;home;sale 1 5;sale 001 5;", 28, 2);
        fault("months 2;home;sale 1 5;sale 0 5;sale 1 5;", 37, 2);
        good("months 2;home;sale 1 5;home;sale 1 5;", 5);
        fault("months 2;home;sale 1 5;home;sale 1 5;sale 1 5;", 42, 2);
        for (int again = 0; again < 8; again++) {
            String all = "months 8;home;" + Samples.sales(8, 5);
            fault(all + "sale " + again + " 5;", all.length() + 5, 2);
        }
    }

    private static void levels() {
        CHECKS.sentence("LEVEL 0 to 999");
        for (int level : new int[] {0, 1, 2, 9, 10, 99, 100, 127, 128, 255, 256, 998, 999}) {
            String text = HOME + "sale 2 " + level + ";";
            good(text, 3);
            CHECKS.due("level of " + text, level, Checks.of(text).level(0, 2));
        }
        fault(HOME + "sale 2 1000;", 21, 1);
        fault(HOME + "sale 2 -1;", 21, 1);
        fault(HOME + "sale 2 0999;", 21, 1);
        CHECKS.due("level of 000", 0, Checks.of(HOME + "sale 2 000;").level(0, 2));
        CHECKS.due("level of 010", 10, Checks.of(HOME + "sale 2 010;").level(0, 2));
    }

    private static void sales() {
        CHECKS.sentence("18 SALES in all at most");
        for (int count = 16; count <= 18; count++) {
            String text = Samples.soldTimes(count, 3);
            good(text, 4 + count);
            CHECKS.due("SALES of " + text, count, Checks.of(text).now(2));
        }
        String full = Samples.soldTimes(18, 3);
        fault(full + "sale 2 5;", full.length(), 3);
        fault(full + "sale 2 5;sale 3 5;", full.length(), 3);
        fault(full + "home;sale 2 5;", full.length() + 5, 3);
        fault(Samples.soldTimes(19, 3), full.length(), 3);
        good(full + "home;home;home;", 25);
        String spread = Samples.most();
        good(spread, 32);
        fault(spread + "sale 2 5;", spread.length(), 3);
    }

    private static void firstAlongTheText() {
        CHECKS.sentence("FAULTS, the first along the text");
        fault("months 9;weigh 9 9;?", 7, 2);
        fault("months ?;weigh 9 9;", 7, 1);
        fault("months 2;weigh 9 9;", 15, 2);
        fault("months 2;weigh 1 9;?", 17, 2);
        fault("months 2;? " + Samples.homes(7), 9, 1);
        fault("months 2;" + Samples.homes(7) + "?", 39, 3);
        fault("months 2;" + Samples.homes(6) + "sale 2 5;home;", 44, 2);
        fault("months 2;home;sale 2 1000;", 19, 2);
        fault("months 2;home;sale 0 1000;sale 2 5;", 21, 1);
        String full = Samples.soldTimes(18, 3);
        fault(full + "sale 9 1000;?", full.length(), 3);
        fault(full + "home;home;home;home;sale 0 5;", full.length() + 15, 3);
        fault(full + "sale 5 5;home;home;home;home;", full.length(), 3);
    }

    private static void firstInTheList() {
        CHECKS.sentence("(of one TOKEN the one that stands first in this list)");
        // No TOKEN, or one that can't come, and a NUMBER that is not as told.
        fault("months 9999;", 7, 1);
        fault("months 2 999;", 9, 1);
        fault("months 2;999;", 9, 1);
        fault("months 2;weigh 1 1;weigh 0001 1;", 25, 1);
        // No TOKEN, or one that can't come, and one more than told.
        String six = "months 2;" + Samples.homes(6);
        fault(six + "home1;", 39, 1);
        fault("months 2;" + Samples.homes(5) + "home home;", 39, 1);
        fault(six + "sale home;", 44, 1);
        fault(six + "sale 0 home;", 46, 1);
        String full = Samples.soldTimes(18, 3);
        fault(full + "sale1 2;", full.length(), 1);
        fault(full.substring(0, full.length() - 1) + " sale 2 5;", full.length(), 1);
        fault(full + "home sale 2 5;", full.length() + 5, 1);
        fault(full + "months 2;", full.length(), 1);
        fault(full + "weigh 1 1;", full.length(), 1);
        fault(six + "weigh 1 1;", 39, 1);
    }

    private static void atTheToken() {
        CHECKS.sentence("1 no TOKEN, or one that can't come (at it");
        fault("?", 0, 1);
        fault(" ?", 1, 1);
        fault("  \n?", 3, 1);
        fault("months  ?2;", 8, 1);
        fault("months   weigh;", 9, 1);
        fault("months 2 ; \n ;", 13, 1);
        fault("months 2;home;   12345", 17, 1);
        fault("months 2;home;   homes;", 17, 1);
    }

    private static void theEnd() {
        CHECKS.sentence("the end: how many bytes there are");
        String[] open = {"", "months", "months 3", "months 3;weigh", "months 3;weigh 1", "months 3;weigh 1 2",
            "months 3;home", HOME + "sale", HOME + "sale 1", HOME + "sale 1 2"};
        for (String text : open) {
            fault(text, text.length(), 1);
            fault(text + " ", text.length() + 1, 1);
            fault(text + "\n \n", text.length() + 3, 1);
            fault(Samples.padded(text, 499), 499, 1);
            fault(Samples.padded(text, 500), 500, 1);
            fault(Samples.padded(text, 501), 500, 1);
        }
        String[] whole = {"months 3;", "months 3;weigh 1 2;", HOME, HOME + "sale 1 2;"};
        int[] lines = {1, 2, 2, 3};
        for (int text = 0; text < whole.length; text++) {
            good(whole[text], lines[text]);
            good(whole[text] + " ", lines[text]);
            good(Samples.padded(whole[text], 500), lines[text]);
        }
    }

    private static void moreThanFiveHundred() {
        CHECKS.sentence("500, if there are more and no FAULT is ahead");
        for (int length : new int[] {501, 502, 519, 520, 521, 539, 540}) {
            fault(Samples.padded(HOME, length), 500, 1);
            fault(Samples.padded("", length), 500, 1);
            fault(Samples.padded("months", length), 500, 1);
            fault(Samples.padded("months 9;", length), 7, 2);
            fault(Samples.padded("months 2;" + Samples.homes(7), length), 39, 3);
            fault(Samples.padded("months 2;?", length), 9, 1);
            fault("months 2;" + "\n".repeat(length - 9), 500, 1);
        }
        fault(Samples.placed(HOME, 499, ";;"), 499, 1);
        fault(Samples.placed(HOME, 500, ";;"), 500, 1);
        fault(Samples.placed(HOME, 501, ";;"), 500, 1);
        fault(Samples.placed(HOME, 498, "?" + Samples.blanks(40)), 498, 1);
        fault(Samples.placed(HOME, 499, "?" + Samples.blanks(40)), 499, 1);
        fault(Samples.placed(HOME, 500, "?" + Samples.blanks(39)), 500, 1);
        fault(Samples.placed(HOME, 510, "sale 9 9;"), 500, 1);
    }

    private static void tokensReadWhole() {
        CHECKS.sentence("TOKENS that begin ahead of it are read whole");
        for (int place = 493; place <= 500; place++) {
            // 'home' and what is like it, over the edge: as a word that is good, none, and one more than told.
            fault(Samples.placed(HOME, place, "home;" + Samples.blanks(10)), 500, 1);
            int at = Math.min(place, 500);
            fault(Samples.placed(HOME, place, "homes" + Samples.blanks(10)), at, 1);
            fault(Samples.placed(HOME, place, "homehomehome"), at, 1);
            fault(Samples.placed("months 2;" + Samples.homes(6), place, "home;" + Samples.blanks(10)), at,
                place < 500 ? 3 : 1);
        }
        for (int place = 496; place <= 500; place++) {
            boolean ahead = place < 500;
            fault(Samples.placed("months ", place, "222;" + Samples.blanks(10)), place, ahead ? 2 : 1);
            fault(Samples.placed("months ", place, "002;" + Samples.blanks(10)), 500, 1);
            fault(Samples.placed("months ", place, "0002;" + Samples.blanks(10)), place, 1);
            fault(Samples.placed("months ", place, "2x;" + Samples.blanks(10)), place, 1);
            fault(Samples.placed(HOME + "sale ", place, "1234" + Samples.blanks(10)), place, 1);
            fault(Samples.placed(HOME + "sale ", place, "003" + Samples.blanks(10)), place, ahead ? 2 : 1);
            fault(Samples.placed(HOME + "sale ", place, "002" + Samples.blanks(10)), 500, 1);
        }
        // The token over the edge is good, the one behind it begins behind the edge and is not read.
        fault(Samples.placed(HOME, 497, "home?"), 500, 1);
        fault(Samples.placed(HOME, 496, "home?"), 500, 1);
        fault(Samples.placed(HOME, 495, "home?;;"), 499, 1);
        fault(Samples.placed(HOME, 495, "home;?"), 500, 1);
        good(Samples.placed(HOME, 495, "home;"), 3);
        fault(Samples.placed(HOME, 496, "home;"), 500, 1);
        fault(Samples.placed("", 499, "x".repeat(41)), 499, 1);
        fault("x".repeat(540), 0, 1);
        fault("7".repeat(540), 0, 1);
    }

    private static void kindTwo() {
        CHECKS.sentence("2 a NUMBER that is not as told, a GAP, a MONTH of a HOME told again (at it)");
        fault("months   9", 9, 2);
        fault("months 3;weigh   3", 17, 2);
        fault("months 3;weigh 1   4", 19, 2);
        fault("months 3;weigh 1 3;weigh \n 1", 27, 2);
        fault(HOME + "sale   3", 21, 2);
        fault(HOME + "sale 1 3;sale   1", 30, 2);
    }

    private static void kindThree() {
        CHECKS.sentence("3 one more 'home', 'sale' than told (at its WORD)");
        String six = "months 2;" + Samples.homes(6);
        fault(six + "home", 39, 3);
        fault(six + " \n home;", 42, 3);
        fault(six + "home?", 39, 3);
        fault(six + "home 5;", 39, 3);
        String full = Samples.soldTimes(18, 3);
        fault(full + "sale", full.length(), 3);
        fault(full + "  sale 2 5;", full.length() + 2, 3);
        fault(full + "sale;", full.length(), 3);
        fault(full + "sale 0 0;", full.length(), 3);
    }
}
