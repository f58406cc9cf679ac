/** Texts that several tests use. */
final class Samples {
    /** 4 months, 3 homes with two sales each; month 2 hangs alone. Index 0, 5, 0, 65/2. */
    static final String FOUR =
        "months 4;weigh 2 2;home;sale 0 100;sale 1 110;home;sale 1 200;sale 3 230;home;sale 0 50;sale 3 80;";

    private Samples() { }

    /** 'sale' of as many months from 0 on, all at one level. */
    static String sales(int count, int level) {
        StringBuilder text = new StringBuilder();
        for (int month = 0; month < count; month++) {
            text.append("sale ").append(month).append(' ').append(level).append(';');
        }
        return text.toString();
    }

    static String homes(int count) {
        return "home;".repeat(count);
    }

    /** 8 months and as many sales in all, 8 of a home, then a further home; the homes that are left stand empty. */
    static String soldTimes(int count, int homes) {
        StringBuilder text = new StringBuilder("months 8;");
        int left = count;
        for (int home = 0; home < homes; home++) {
            int here = Math.min(8, left);
            text.append("home;").append(sales(here, 5 + home));
            left -= here;
        }
        return text.toString();
    }

    /** The most of everything that a text can tell: 8 months, 7 weights, 6 homes, 18 sales: 32 lines. */
    static String most() {
        StringBuilder text = new StringBuilder("months 8;");
        for (int gap = 1; gap <= 7; gap++) {
            text.append("weigh ").append(gap).append(' ').append(1 + gap % 3).append(';');
        }
        for (int home = 0; home < 6; home++) {
            text.append("home;");
            for (int sale = 0; sale < 3; sale++) {
                int month = (home + 3 * sale) % 8;
                text.append("sale ").append(month).append(' ').append(100 * home + 37 * sale * sale).append(';');
            }
        }
        return text.toString();
    }

    static String blanks(int count) {
        return " ".repeat(count);
    }

    /** A text with blanks behind it up to a length. */
    static String padded(String text, int length) {
        return text + blanks(length - text.length());
    }

    /** Two texts with as many blanks between them that the second one begins at a place. */
    static String placed(String first, int place, String second) {
        return padded(first, place) + second;
    }
}
