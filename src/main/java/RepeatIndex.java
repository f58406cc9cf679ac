import java.util.NoSuchElementException;

public final class RepeatIndex {
    public static final int NONE = -1;

    private static final int FULL = -2;
    private static final int NO_WORTH = NONE - 99999;
    private static final int MONTHS_LEAST = 2;
    private static final int MONTHS_MOST = 8;
    private static final int HOMES_MOST = 6;
    private static final int SALES_MOST = 18;
    private static final int LEVEL_MOST = 999;
    private static final int WEIGHT_MOST = 3;
    private static final int TAPE_MOST = 540;
    private static final int FEED_BYTES = 20;

    private final Tape tape;
    private final Book book;
    private final Book trial;
    private final Fit fit;
    private final Fit trialFit;
    private boolean fitStands;
    private final History history;

    public RepeatIndex() {
        tape = new Tape();
        book = new Book();
        trial = new Book();
        fit = new Fit();
        trialFit = new Fit();
        fitStands = false;
        history = new History();
    }

    public int feed(int a, int b, int c, int d, int e) {
        if (!tape.hasRoom(FEED_BYTES)) {
            return NONE;
        }
        tape.addNumber(a);
        tape.addNumber(b);
        tape.addNumber(c);
        tape.addNumber(d);
        tape.addNumber(e);
        return tape.length;
    }

    public boolean end(int n) {
        if (n < 0 || n > tape.length) {
            return false;
        }
        tape.length = n;
        return true;
    }

    public int text() {
        boolean good = tape.read();
        tape.length = 0;
        if (!good) {
            return -1 - tape.begin;
        }
        book.copyFrom(tape.told);
        history.forget();
        fitStands = false;
        return tape.lines;
    }

    public int fault() {
        return tape.faultKind;
    }

    public int now(int what) {
        switch (what) {
            case 0:
                return book.months;
            case 1:
                return book.homes;
            case 2:
                return book.sales;
            case 3:
                return fitNow().pairs;
            case 4:
                return fitNow().countParts();
            case 5:
                return history.count;
            case 6:
                return tape.length;
            default:
                return NONE;
        }
    }

    public int level(int home, int month) {
        return book.levelAt(home, month);
    }

    public int pair(int pair, int what) throws NoSuchElementException {
        Fit current = fitNow();
        if (!current.hasPair(pair) || what < 0 || what >= Fit.PAIR_FACTS) {
            throw new NoSuchElementException();
        }
        return current.pairRows[pair][what];
    }

    public int part(int month) {
        if (!book.hasMonth(month)) {
            return NONE;
        }
        return fitNow().parts[month];
    }

    public long index(int month, boolean under) throws NoSuchElementException {
        if (!book.hasMonth(month)) {
            throw new NoSuchElementException();
        }
        return fitNow().tellIndex(month, under);
    }

    public long off(int pair, boolean under) throws NoSuchElementException {
        Fit current = fitNow();
        if (!current.hasPair(pair)) {
            throw new NoSuchElementException();
        }
        return lowestTerms(current.offTop(pair), current.bottom, under);
    }

    public long error(boolean under) {
        Fit current = fitNow();
        return lowestTerms(current.errorTop(), current.bottom, under);
    }

    public int worst() {
        return fitNow().findWorst();
    }

    public long without(int home, int month, boolean under) throws NoSuchElementException {
        if (!book.hasHome(home) || !book.hasMonth(month)) {
            throw new NoSuchElementException();
        }
        trial.copyFrom(book);
        trial.clearHome(home);
        trialFit.solve(trial);
        return trialFit.tellIndex(month, under);
    }

    public long revised(int home, int month, int level, int at, boolean under) throws NoSuchElementException {
        if (!book.hasMonth(at) || !book.canTake(home, month, level)) {
            throw new NoSuchElementException();
        }
        trial.copyFrom(book);
        trial.putSale(home, month, level);
        trialFit.solve(trial);
        return trialFit.tellIndex(at, under);
    }

    public int worth(int home, int month) {
        if (!book.hasHome(home) || !book.hasMonth(month)) {
            return NO_WORTH;
        }
        int sold = book.saleNearest(home, month);
        Fit current = fitNow();
        if (sold == NONE || current.parts[sold] != current.parts[month] || current.bottom <= 0) {
            return NO_WORTH;
        }
        long rise = current.tops[month] - current.tops[sold];
        return book.levelAt(home, sold) + (int) Math.floorDiv(rise, current.bottom);
    }

    public int home() {
        if (book.homes >= HOMES_MOST) {
            return FULL;
        }
        beginAct();
        return book.addHome();
    }

    public int sale(int home, int month, int level) {
        if (!book.canTake(home, month, level)) {
            return NONE;
        }
        if (book.sales >= SALES_MOST) {
            return FULL;
        }
        beginAct();
        book.putSale(home, month, level);
        return book.sales;
    }

    public int drop(int home, int month) {
        if (book.levelAt(home, month) == NONE) {
            return NONE;
        }
        beginAct();
        book.takeSale(home, month);
        return book.sales;
    }

    public int shift(int home, int more) {
        if (!book.hasHome(home) || more < -LEVEL_MOST || more > LEVEL_MOST || !book.canMove(home, more)) {
            return NONE;
        }
        beginAct();
        return book.moveLevels(home, more);
    }

    public int weigh(int gap, int weight) {
        if (!book.hasGap(gap) || weight < 0 || weight > WEIGHT_MOST) {
            return NONE;
        }
        beginAct();
        int old = book.weights[gap];
        book.weights[gap] = weight;
        return old;
    }

    public int undo() {
        if (!history.giveBack(book)) {
            return NONE;
        }
        fitStands = false;
        return history.count;
    }

    private void beginAct() {
        history.keep(book);
        fitStands = false;
    }

    private Fit fitNow() {
        if (!fitStands) {
            fit.solve(book);
            fitStands = true;
        }
        return fit;
    }

    private static long lowestTerms(long top, long bottom, boolean under) {
        long common = greatestCommon(Math.abs(top), bottom);
        if (common <= 0) {
            return under ? 1 : 0;
        }
        return (under ? bottom : top) / common;
    }

    private static long greatestCommon(long first, long second) {
        long a = first;
        long b = second;
        // Euclid needs fewer than 100 steps for any two longs.
        for (int step = 0; step < 100 && b != 0; step++) {
            long rest = a % b;
            a = b;
            b = rest;
        }
        return a;
    }

    /** Months, weights, homes and their sales: all that a text tells and an act changes. */
    private static final class Book {
        int months;
        int homes;
        int sales;
        final int[] weights;
        final int[] levels;

        Book() {
            weights = new int[MONTHS_MOST];
            levels = new int[HOMES_MOST * MONTHS_MOST];
            reset(MONTHS_LEAST);
        }

        void reset(int newMonths) {
            months = newMonths;
            homes = 0;
            sales = 0;
            for (int gap = 0; gap < weights.length; gap++) {
                weights[gap] = 0;
            }
            for (int place = 0; place < levels.length; place++) {
                levels[place] = NONE;
            }
        }

        void copyFrom(Book other) {
            months = other.months;
            homes = other.homes;
            sales = other.sales;
            System.arraycopy(other.weights, 0, weights, 0, MONTHS_MOST);
            System.arraycopy(other.levels, 0, levels, 0, HOMES_MOST * MONTHS_MOST);
        }

        boolean hasHome(int home) {
            return home >= 0 && home < homes;
        }

        boolean hasMonth(int month) {
            return month >= 0 && month < months;
        }

        boolean hasGap(int gap) {
            return gap >= 1 && gap < months;
        }

        int levelAt(int home, int month) {
            if (!hasHome(home) || !hasMonth(month)) {
                return NONE;
            }
            return levels[home * MONTHS_MOST + month];
        }

        boolean canTake(int home, int month, int level) {
            return hasHome(home) && hasMonth(month) && levels[home * MONTHS_MOST + month] == NONE
                && level >= 0 && level <= LEVEL_MOST;
        }

        int addHome() {
            homes++;
            return homes - 1;
        }

        void putSale(int home, int month, int level) {
            if (canTake(home, month, level)) {
                levels[home * MONTHS_MOST + month] = level;
                sales++;
            }
        }

        void takeSale(int home, int month) {
            if (levelAt(home, month) != NONE) {
                levels[home * MONTHS_MOST + month] = NONE;
                sales--;
            }
        }

        void clearHome(int home) {
            for (int month = 0; month < months; month++) {
                takeSale(home, month);
            }
        }

        boolean canMove(int home, int more) {
            for (int month = 0; month < months; month++) {
                int level = levelAt(home, month);
                if (level != NONE && (level + more < 0 || level + more > LEVEL_MOST)) {
                    return false;
                }
            }
            return true;
        }

        int moveLevels(int home, int more) {
            int moved = 0;
            for (int month = 0; month < months; month++) {
                if (levelAt(home, month) != NONE) {
                    levels[home * MONTHS_MOST + month] += more;
                    moved++;
                }
            }
            return moved;
        }

        int saleNearest(int home, int month) {
            for (int before = month; before >= 0; before--) {
                if (levelAt(home, before) != NONE) {
                    return before;
                }
            }
            for (int behind = month + 1; behind < months; behind++) {
                if (levelAt(home, behind) != NONE) {
                    return behind;
                }
            }
            return NONE;
        }

        int weightOf(int held) {
            for (int gap = held; gap >= 1; gap--) {
                if (hasGap(gap) && weights[gap] != 0) {
                    return weights[gap];
                }
            }
            return 1;
        }
    }

    /** Pairs, parts and index of a book. All months have one lower number, so tops can be compared. */
    private static final class Fit {
        static final int PAIR_FACTS = 5;

        private static final int PAIRS_MOST = HOMES_MOST * (MONTHS_MOST - 1);
        private static final int HOME = 0;
        private static final int FROM = 1;
        private static final int TO = 2;
        private static final int RISE = 3;
        private static final int WEIGHT = 4;

        int months;
        int pairs;
        final int[][] pairRows;
        final int[] parts;
        final long[] tops;
        long bottom;
        private final long[] pulls;
        private final long[][] rows;

        Fit() {
            pairRows = new int[PAIRS_MOST][PAIR_FACTS];
            parts = new int[MONTHS_MOST];
            tops = new long[MONTHS_MOST];
            bottom = 1;
            pulls = new long[MONTHS_MOST];
            rows = new long[MONTHS_MOST][2 * MONTHS_MOST];
        }

        void solve(Book book) {
            months = book.months;
            listPairs(book);
            joinParts();
            writeRows();
            invertRows();
            writeTops();
        }

        boolean hasPair(int pair) {
            return pair >= 0 && pair < pairs;
        }

        int countParts() {
            int count = 0;
            for (int month = 0; month < months; month++) {
                if (parts[month] == month) {
                    count++;
                }
            }
            return count;
        }

        long tellIndex(int month, boolean under) {
            return lowestTerms(tops[month], bottom, under);
        }

        long offTop(int pair) {
            int[] row = pairRows[pair];
            return row[RISE] * bottom - (tops[row[TO]] - tops[row[FROM]]);
        }

        /**
         * At the least sum, offs times index differences cancel out, so that weight times rise times off adds up
         * to the same sum; squares of offs would not fit into a long.
         */
        long errorTop() {
            long sum = 0;
            for (int pair = 0; pair < pairs; pair++) {
                sum += (long) pairRows[pair][WEIGHT] * pairRows[pair][RISE] * offTop(pair);
            }
            return sum;
        }

        int findWorst() {
            int worst = NONE;
            long most = -1;
            for (int pair = 0; pair < pairs; pair++) {
                long size = Math.abs(offTop(pair));
                if (size > most) {
                    most = size;
                    worst = pair;
                }
            }
            return worst;
        }

        private void listPairs(Book book) {
            pairs = 0;
            for (int home = 0; home < book.homes; home++) {
                int from = NONE;
                for (int month = 0; month < months; month++) {
                    if (book.levelAt(home, month) != NONE) {
                        if (from != NONE) {
                            addPair(book, home, from, month);
                        }
                        from = month;
                    }
                }
            }
        }

        private void addPair(Book book, int home, int from, int to) {
            if (pairs >= PAIRS_MOST) {
                return;
            }
            int[] row = pairRows[pairs];
            row[HOME] = home;
            row[FROM] = from;
            row[TO] = to;
            row[RISE] = book.levelAt(home, to) - book.levelAt(home, from);
            row[WEIGHT] = book.weightOf(to - from);
            pairs++;
        }

        private void joinParts() {
            for (int month = 0; month < months; month++) {
                parts[month] = month;
            }
            for (int pair = 0; pair < pairs; pair++) {
                int one = parts[pairRows[pair][FROM]];
                int other = parts[pairRows[pair][TO]];
                renamePart(Math.max(one, other), Math.min(one, other));
            }
        }

        private void renamePart(int old, int first) {
            for (int month = 0; month < months; month++) {
                if (parts[month] == old) {
                    parts[month] = first;
                }
            }
        }

        private boolean isFirst(int month) {
            return parts[month] == month;
        }

        /** The equations of the least sum; beside them the matrix that becomes their inverse times bottom. */
        private void writeRows() {
            for (int row = 0; row < months; row++) {
                for (int column = 0; column < 2 * months; column++) {
                    rows[row][column] = 0;
                }
                rows[row][months + row] = 1;
                // A part's first month stands still: its equation says that its index is 0.
                rows[row][row] = isFirst(row) ? 1 : 0;
                pulls[row] = 0;
            }
            for (int pair = 0; pair < pairs; pair++) {
                writePair(pairRows[pair]);
            }
        }

        private void writePair(int[] pair) {
            int from = pair[FROM];
            int to = pair[TO];
            int weight = pair[WEIGHT];
            addPull(from, -weight * pair[RISE]);
            addPull(to, weight * pair[RISE]);
            addCell(from, from, weight);
            addCell(to, to, weight);
            addCell(from, to, -weight);
            addCell(to, from, -weight);
        }

        private void addPull(int month, int pull) {
            if (!isFirst(month)) {
                pulls[month] += pull;
            }
        }

        private void addCell(int row, int column, int weight) {
            if (!isFirst(row) && !isFirst(column)) {
                rows[row][column] += weight;
            }
        }

        /**
         * Elimination without fractions: each cell is always a minor of the first matrix, so each division leaves
         * no rest. With 16 pairs of weight 3 no minor is above (96 / 7)^7, so two of them multiplied fit into a
         * long; the pulls come in only afterwards, as with them products might not fit.
         */
        private void invertRows() {
            long before = 1;
            for (int pivot = 0; pivot < months; pivot++) {
                for (int row = 0; row < months; row++) {
                    if (row != pivot) {
                        clearCell(rows[row], rows[pivot], pivot, before);
                    }
                }
                before = rows[pivot][pivot];
            }
            bottom = before;
        }

        private void clearCell(long[] row, long[] pivotRow, int pivot, long before) {
            if (before == 0) {
                return;
            }
            long keep = pivotRow[pivot];
            long take = row[pivot];
            for (int column = 0; column < 2 * months; column++) {
                row[column] = (row[column] * keep - pivotRow[column] * take) / before;
            }
        }

        private void writeTops() {
            for (int month = 0; month < months; month++) {
                long sum = 0;
                for (int other = 0; other < months; other++) {
                    sum += rows[month][months + other] * pulls[other];
                }
                tops[month] = sum;
            }
        }
    }

    /** Books as they were ahead of the latest acts; the oldest gives way. */
    private static final class History {
        private static final int KEPT_MOST = 10;

        int count;
        private int next;
        private final Book[] kept;

        History() {
            count = 0;
            next = 0;
            kept = new Book[KEPT_MOST];
            for (int place = 0; place < KEPT_MOST; place++) {
                kept[place] = new Book();
            }
        }

        void forget() {
            count = 0;
        }

        void keep(Book book) {
            kept[next].copyFrom(book);
            next = next + 1 < KEPT_MOST ? next + 1 : 0;
            count = Math.min(count + 1, KEPT_MOST);
        }

        boolean giveBack(Book book) {
            if (count == 0) {
                return false;
            }
            next = next > 0 ? next - 1 : KEPT_MOST - 1;
            book.copyFrom(kept[next]);
            count--;
            return true;
        }
    }

    /** The bytes fed, and their reading as a text into a book of its own, up to the first fault. */
    private static final class Tape {
        private static final int TEXT_MOST = 500;
        private static final int DIGITS_MOST = 3;

        private static final int END = 0;
        private static final int BAD = 1;
        private static final int NUMBER = 2;
        private static final int SEMICOLON = 3;
        private static final int MONTHS = 4;
        private static final int WEIGH = 5;
        private static final int HOME = 6;
        private static final int SALE = 7;

        private static final int DUE_WORD = 0;
        private static final int DUE_MONTHS = 1;
        private static final int DUE_GAP = 2;
        private static final int DUE_WEIGHT = 3;
        private static final int DUE_MONTH = 4;
        private static final int DUE_LEVEL = 5;
        private static final int DUE_SEMICOLON = 6;

        private static final int NO_FAULT = 0;
        private static final int CANNOT_COME = 1;
        private static final int NOT_AS_TOLD = 2;
        private static final int ONE_MORE = 3;

        int length;
        int faultKind;
        int lines;
        /** Where the token at hand begins: the place of the fault, if there is one. */
        int begin;
        final Book told;
        private final byte[] bytes;
        private int at;
        private int kind;
        private int value;
        private int due;
        /** The gap or month that the number behind it is for. */
        private int subject;

        Tape() {
            told = new Book();
            bytes = new byte[TAPE_MOST];
        }

        boolean hasRoom(int more) {
            return length + more <= TAPE_MOST;
        }

        void addNumber(int number) {
            for (int bits = 24; bits >= 0; bits -= 8) {
                if (hasRoom(1)) {
                    bytes[length] = (byte) (number >> bits);
                    length++;
                }
            }
        }

        boolean read() {
            told.reset(MONTHS_LEAST);
            lines = 0;
            at = 0;
            due = DUE_WORD;
            faultKind = NO_FAULT;
            kind = BAD;
            // Each token but the end takes a byte, so that the end comes ahead of the bound.
            for (int token = 0; token <= TEXT_MOST && kind != END && faultKind == NO_FAULT; token++) {
                step();
                faultKind = take();
            }
            return faultKind == NO_FAULT;
        }

        private int take() {
            if (kind == END) {
                return due == DUE_WORD && lines > 0 && length <= TEXT_MOST ? NO_FAULT : CANNOT_COME;
            }
            if (due == DUE_WORD) {
                return takeWord();
            }
            if (due == DUE_SEMICOLON) {
                return takeSemicolon();
            }
            if (kind != NUMBER) {
                return CANNOT_COME;
            }
            switch (due) {
                case DUE_MONTHS:
                    return takeMonths();
                case DUE_GAP:
                    return takeGap();
                case DUE_WEIGHT:
                    return takeWeight();
                case DUE_MONTH:
                    return takeMonth();
                default:
                    return takeLevel();
            }
        }

        private int takeWord() {
            boolean first = lines == 0;
            if (kind == MONTHS && first) {
                return goOn(DUE_MONTHS);
            }
            if (kind == WEIGH && !first && told.homes == 0) {
                return goOn(DUE_GAP);
            }
            if (kind == HOME && !first) {
                return takeHome();
            }
            if (kind == SALE && told.homes > 0) {
                return told.sales < SALES_MOST ? goOn(DUE_MONTH) : ONE_MORE;
            }
            return CANNOT_COME;
        }

        private int takeHome() {
            if (told.homes >= HOMES_MOST) {
                return ONE_MORE;
            }
            told.addHome();
            return goOn(DUE_SEMICOLON);
        }

        private int takeSemicolon() {
            if (kind != SEMICOLON) {
                return CANNOT_COME;
            }
            lines++;
            return goOn(DUE_WORD);
        }

        private int takeMonths() {
            if (value < MONTHS_LEAST || value > MONTHS_MOST) {
                return NOT_AS_TOLD;
            }
            told.months = value;
            return goOn(DUE_SEMICOLON);
        }

        private int takeGap() {
            if (!told.hasGap(value) || told.weights[value] != 0) {
                return NOT_AS_TOLD;
            }
            subject = value;
            return goOn(DUE_WEIGHT);
        }

        private int takeWeight() {
            if (value < 1 || value > WEIGHT_MOST || !told.hasGap(subject)) {
                return NOT_AS_TOLD;
            }
            told.weights[subject] = value;
            return goOn(DUE_SEMICOLON);
        }

        private int takeMonth() {
            if (!told.hasMonth(value) || told.levelAt(told.homes - 1, value) != NONE) {
                return NOT_AS_TOLD;
            }
            subject = value;
            return goOn(DUE_LEVEL);
        }

        private int takeLevel() {
            if (!told.canTake(told.homes - 1, subject, value)) {
                return NOT_AS_TOLD;
            }
            told.putSale(told.homes - 1, subject, value);
            return goOn(DUE_SEMICOLON);
        }

        private int goOn(int newDue) {
            due = newDue;
            return NO_FAULT;
        }

        private void step() {
            skipBlanks();
            begin = at;
            // What begins behind the longest text is not read: the text ends there, one way or the other.
            if (at >= length || at >= TEXT_MOST) {
                kind = END;
                begin = Math.min(length, TEXT_MOST);
            } else if (isOfRun(bytes[at])) {
                readRun();
            } else {
                kind = bytes[at] == ';' ? SEMICOLON : BAD;
                at++;
            }
        }

        private void skipBlanks() {
            while (at < length && (bytes[at] == ' ' || bytes[at] == '\n')) {
                at++;
            }
        }

        private void readRun() {
            int digits = 0;
            value = 0;
            while (at < length && isOfRun(bytes[at])) {
                if (isDigit(bytes[at])) {
                    digits++;
                    value = value * 10 + (bytes[at] - '0');
                }
                at++;
            }
            if (digits == 0) {
                kind = findWord();
            } else {
                kind = digits == at - begin && digits <= DIGITS_MOST ? NUMBER : BAD;
            }
        }

        private int findWord() {
            if (spells("months")) {
                return MONTHS;
            }
            if (spells("weigh")) {
                return WEIGH;
            }
            if (spells("home")) {
                return HOME;
            }
            return spells("sale") ? SALE : BAD;
        }

        private boolean spells(String word) {
            if (word.length() != at - begin) {
                return false;
            }
            for (int place = begin; place < at; place++) {
                if (bytes[place] != word.charAt(place - begin)) {
                    return false;
                }
            }
            return true;
        }

        private static boolean isOfRun(int sign) {
            return sign >= 'a' && sign <= 'z' || isDigit(sign);
        }

        private static boolean isDigit(int sign) {
            return sign >= '0' && sign <= '9';
        }
    }
}
