import java.util.ArrayList;
import java.util.Collections;
import java.util.List;
import java.util.Random;

/** Makes texts for tests: good ones, and ones that are spoilt a little. */
final class Texts {
    private Texts() { }

    static String good(Random random) {
        int months = 2 + random.nextInt(7);
        StringBuilder text = new StringBuilder("months ").append(months).append(gap(random, ";"));
        for (int gap : some(random, months - 1)) {
            text.append("weigh ").append(gap + 1).append(' ').append(1 + random.nextInt(3)).append(gap(random, ";"));
        }
        int left = 18;
        int span = random.nextBoolean() ? 1000 : 20;
        int homes = random.nextInt(7);
        for (int home = 0; home < homes; home++) {
            text.append("home").append(gap(random, ";"));
            for (int month : some(random, months)) {
                if (left > 0) {
                    text.append("sale ").append(month).append(gap(random, " ")).append(random.nextInt(span)).append(';');
                    left--;
                }
            }
        }
        return text.toString();
    }

    static String spoilt(Random random) {
        StringBuilder text = new StringBuilder(good(random));
        int turns = random.nextInt(3);
        for (int turn = 0; turn < turns; turn++) {
            spoil(text, random);
        }
        if (random.nextInt(6) == 0) {
            lengthen(text, random);
        }
        if (text.length() > 540) {
            text.setLength(540);
        }
        return text.toString();
    }

    private static void spoil(StringBuilder text, Random random) {
        String[] pieces = {"home;", "sale 1 5;", "weigh 1 1;", "months 2;", ";", " ", "\n", "7", "0", "9", "x", "home",
            "sale", "?", "\t", "A", "" + (char) 0, "" + (char) 200, "000", "12", "z1", "1z"};
        int at = random.nextInt(text.length() + 1);
        switch (random.nextInt(4)) {
            case 0:
                text.insert(at, pieces[random.nextInt(pieces.length)]);
                break;
            case 1:
                text.delete(at, Math.min(text.length(), at + 1 + random.nextInt(3)));
                break;
            case 2:
                text.setLength(at);
                break;
            default:
                if (at < text.length()) {
                    text.setCharAt(at, "0123456789 ;ahmos".charAt(random.nextInt(17)));
                }
                break;
        }
    }

    /** Blanks that bring the text's end, or one of its tokens, to the bound of 500 bytes. */
    private static void lengthen(StringBuilder text, Random random) {
        int place = random.nextBoolean() ? text.length() : random.nextInt(text.length() + 1);
        int goal = 490 + random.nextInt(20);
        int tail = random.nextInt(1 + Math.min(40, text.length() - place));
        int blanks = Math.max(0, goal - place - tail);
        text.insert(place, " ".repeat(blanks));
    }

    private static String gap(Random random, String sign) {
        int kind = random.nextInt(10);
        return kind == 0 ? " " + sign : kind == 1 ? sign + "\n" : kind == 2 ? "\n " + sign + "  " : sign;
    }

    private static List<Integer> some(Random random, int count) {
        List<Integer> all = new ArrayList<>();
        for (int number = 0; number < count; number++) {
            all.add(number);
        }
        Collections.shuffle(all, random);
        return all.subList(0, random.nextInt(count + 1));
    }
}
