import java.math.BigInteger;
import java.util.ArrayDeque;
import java.util.ArrayList;
import java.util.Arrays;
import java.util.Deque;
import java.util.List;
import java.util.Map;
import java.util.TreeMap;
import java.util.regex.Matcher;
import java.util.regex.Pattern;

/** A second program for the same document, slow and with big numbers, that shares no idea with the class. */
final class Model {
    static final int NO_WORTH = -100000;
    private static final Pattern TOKEN = Pattern.compile("[ \n]*([a-z0-9]+|[^ \n])", Pattern.DOTALL);

    int months = 2;
    TreeMap<Integer, Integer> weighs = new TreeMap<>();
    List<TreeMap<Integer, Integer>> homes = new ArrayList<>();
    StringBuilder tape = new StringBuilder();
    int fault = 0;
    private final Deque<Model> past = new ArrayDeque<>();

    record Pair(int home, int from, int to, int rise, int weight) { }

    record Fraction(BigInteger top, BigInteger under) {
        static Fraction of(BigInteger top, BigInteger under) {
            BigInteger common = top.gcd(under);
            if (under.signum() < 0) {
                common = common.negate();
            }
            return new Fraction(top.divide(common), under.divide(common));
        }

        static Fraction of(long number) {
            return new Fraction(BigInteger.valueOf(number), BigInteger.ONE);
        }

        Fraction plus(Fraction other) {
            return of(top.multiply(other.under).add(other.top.multiply(under)), under.multiply(other.under));
        }

        Fraction minus(Fraction other) {
            return plus(new Fraction(other.top.negate(), other.under));
        }

        Fraction times(Fraction other) {
            return of(top.multiply(other.top), under.multiply(other.under));
        }

        Fraction by(Fraction other) {
            return of(top.multiply(other.under), under.multiply(other.top));
        }

        long tell(boolean lower) {
            return (lower ? under : top).longValueExact();
        }

        int floor() {
            BigInteger[] parts = top.divideAndRemainder(under);
            return (parts[1].signum() < 0 ? parts[0].subtract(BigInteger.ONE) : parts[0]).intValueExact();
        }
    }

    private Model copy() {
        Model other = new Model();
        other.months = months;
        other.weighs = new TreeMap<>(weighs);
        for (TreeMap<Integer, Integer> home : homes) {
            other.homes.add(new TreeMap<>(home));
        }
        return other;
    }

    private void keep() {
        past.addLast(copy());
        if (past.size() > 10) {
            past.removeFirst();
        }
    }

    boolean hasHome(int home) {
        return home >= 0 && home < homes.size();
    }

    boolean hasMonth(int month) {
        return month >= 0 && month < months;
    }

    int sales() {
        return homes.stream().mapToInt(Map::size).sum();
    }

    List<Pair> pairs() {
        List<Pair> pairs = new ArrayList<>();
        for (int home = 0; home < homes.size(); home++) {
            Map.Entry<Integer, Integer> last = null;
            for (Map.Entry<Integer, Integer> sale : homes.get(home).entrySet()) {
                if (last != null) {
                    int held = sale.getKey() - last.getKey();
                    Map.Entry<Integer, Integer> weigh = weighs.floorEntry(held);
                    pairs.add(new Pair(home, last.getKey(), sale.getKey(), sale.getValue() - last.getValue(),
                        weigh == null ? 1 : weigh.getValue()));
                }
                last = sale;
            }
        }
        return pairs;
    }

    int partOf(int month) {
        boolean[] seen = new boolean[months];
        Deque<Integer> open = new ArrayDeque<>();
        open.add(month);
        seen[month] = true;
        while (!open.isEmpty()) {
            int at = open.remove();
            for (Pair pair : pairs()) {
                int next = pair.from == at ? pair.to : pair.to == at ? pair.from : at;
                if (!seen[next]) {
                    seen[next] = true;
                    open.add(next);
                }
            }
        }
        for (int first = 0; first < months; first++) {
            if (seen[first]) {
                return first;
            }
        }
        throw new IllegalStateException();
    }

    /** Gauss with fractions: a pivot is looked for, rows are exchanged. */
    Fraction[] indexes() {
        Fraction[][] rows = new Fraction[months][months + 1];
        for (Fraction[] row : rows) {
            Arrays.fill(row, Fraction.of(0));
        }
        for (Pair pair : pairs()) {
            addSlope(rows[pair.to], pair, 1);
            addSlope(rows[pair.from], pair, -1);
        }
        for (int month = 0; month < months; month++) {
            if (partOf(month) == month) {
                Arrays.fill(rows[month], Fraction.of(0));
                rows[month][month] = Fraction.of(1);
            }
        }
        for (int column = 0; column < months; column++) {
            clearColumn(rows, column);
        }
        Fraction[] indexes = new Fraction[months];
        for (int month = 0; month < months; month++) {
            indexes[month] = rows[month][months];
        }
        return indexes;
    }

    private void addSlope(Fraction[] row, Pair pair, int sign) {
        Fraction weight = Fraction.of(sign * pair.weight);
        row[pair.to] = row[pair.to].plus(weight);
        row[pair.from] = row[pair.from].minus(weight);
        row[months] = row[months].plus(weight.times(Fraction.of(pair.rise)));
    }

    private void clearColumn(Fraction[][] rows, int column) {
        int found = column;
        while (rows[found][column].top.signum() == 0) {
            found++;
        }
        Fraction[] pivot = rows[found];
        rows[found] = rows[column];
        rows[column] = pivot;
        Fraction scale = pivot[column];
        for (int cell = 0; cell <= months; cell++) {
            pivot[cell] = pivot[cell].by(scale);
        }
        for (int other = 0; other < months; other++) {
            Fraction factor = rows[other][column];
            if (other != column && factor.top.signum() != 0) {
                for (int cell = 0; cell <= months; cell++) {
                    rows[other][cell] = rows[other][cell].minus(factor.times(pivot[cell]));
                }
            }
        }
    }

    int feed(String twenty) {
        if (tape.length() + 20 > 540) {
            return -1;
        }
        tape.append(twenty);
        return tape.length();
    }

    boolean end(int n) {
        if (n < 0 || n > tape.length()) {
            return false;
        }
        tape.setLength(n);
        return true;
    }

    int now(int what) {
        int parts = 0;
        for (int month = 0; month < months; month++) {
            parts += partOf(month) == month ? 1 : 0;
        }
        int[] all = {months, homes.size(), sales(), pairs().size(), parts, past.size(), tape.length()};
        return what >= 0 && what < all.length ? all[what] : -1;
    }

    int level(int home, int month) {
        return hasHome(home) ? homes.get(home).getOrDefault(month, -1) : -1;
    }

    long pair(int pair, int what) {
        List<Pair> pairs = pairs();
        if (pair < 0 || pair >= pairs.size() || what < 0 || what > 4) {
            return Checks.THROWS;
        }
        Pair p = pairs.get(pair);
        return new int[] {p.home, p.from, p.to, p.rise, p.weight}[what];
    }

    int part(int month) {
        return hasMonth(month) ? partOf(month) : -1;
    }

    long index(int month, boolean under) {
        return hasMonth(month) ? indexes()[month].tell(under) : Checks.THROWS;
    }

    private Fraction offOf(Pair pair, Fraction[] indexes) {
        return Fraction.of(pair.rise).minus(indexes[pair.to].minus(indexes[pair.from]));
    }

    long off(int pair, boolean under) {
        List<Pair> pairs = pairs();
        if (pair < 0 || pair >= pairs.size()) {
            return Checks.THROWS;
        }
        return offOf(pairs.get(pair), indexes()).tell(under);
    }

    long error(boolean under) {
        Fraction sum = Fraction.of(0);
        Fraction[] indexes = indexes();
        for (Pair pair : pairs()) {
            Fraction off = offOf(pair, indexes);
            sum = sum.plus(off.times(off).times(Fraction.of(pair.weight)));
        }
        return sum.tell(under);
    }

    int worst() {
        int worst = -1;
        Fraction most = Fraction.of(-1);
        Fraction[] indexes = indexes();
        List<Pair> pairs = pairs();
        for (int pair = 0; pair < pairs.size(); pair++) {
            Fraction off = offOf(pairs.get(pair), indexes);
            Fraction size = new Fraction(off.top.abs(), off.under);
            if (size.minus(most).top.signum() > 0) {
                most = size;
                worst = pair;
            }
        }
        return worst;
    }

    long without(int home, int month, boolean under) {
        if (!hasHome(home) || !hasMonth(month)) {
            return Checks.THROWS;
        }
        Model other = copy();
        other.homes.remove(home);
        return other.index(month, under);
    }

    private boolean canSell(int home, int month, int level) {
        return hasHome(home) && hasMonth(month) && level(home, month) == -1 && level >= 0 && level <= 999;
    }

    long revised(int home, int month, int level, int at, boolean under) {
        if (!hasMonth(at) || !canSell(home, month, level)) {
            return Checks.THROWS;
        }
        Model other = copy();
        other.homes.get(home).put(month, level);
        return other.index(at, under);
    }

    int worth(int home, int month) {
        if (!hasHome(home) || !hasMonth(month) || homes.get(home).isEmpty()) {
            return NO_WORTH;
        }
        TreeMap<Integer, Integer> sales = homes.get(home);
        Map.Entry<Integer, Integer> sale = sales.floorEntry(month) != null ? sales.floorEntry(month) : sales.firstEntry();
        if (partOf(sale.getKey()) != partOf(month)) {
            return NO_WORTH;
        }
        Fraction[] indexes = indexes();
        return Fraction.of(sale.getValue()).plus(indexes[month]).minus(indexes[sale.getKey()]).floor();
    }

    int home() {
        if (homes.size() == 6) {
            return -2;
        }
        keep();
        homes.add(new TreeMap<>());
        return homes.size() - 1;
    }

    int sale(int home, int month, int level) {
        if (!canSell(home, month, level)) {
            return -1;
        }
        if (sales() == 18) {
            return -2;
        }
        keep();
        homes.get(home).put(month, level);
        return sales();
    }

    int drop(int home, int month) {
        if (level(home, month) == -1) {
            return -1;
        }
        keep();
        homes.get(home).remove(month);
        return sales();
    }

    int shift(int home, int more) {
        if (!hasHome(home) || more < -999 || more > 999
            || homes.get(home).values().stream().anyMatch(level -> level + more < 0 || level + more > 999)) {
            return -1;
        }
        keep();
        homes.get(home).replaceAll((month, level) -> level + more);
        return homes.get(home).size();
    }

    int weigh(int gap, int weight) {
        if (gap < 1 || gap > months - 1 || weight < 0 || weight > 3) {
            return -1;
        }
        keep();
        Integer old = weight == 0 ? weighs.remove(gap) : weighs.put(gap, weight);
        return old == null ? 0 : old;
    }

    int undo() {
        if (past.isEmpty()) {
            return -1;
        }
        take(past.removeLast());
        return past.size();
    }

    private void take(Model other) {
        months = other.months;
        weighs = other.weighs;
        homes = other.homes;
    }

    int text() {
        String text = tape.toString();
        tape.setLength(0);
        Model read = new Model();
        int answer = read.readText(text);
        fault = read.fault;
        if (answer >= 0) {
            take(read);
            past.clear();
        }
        return answer;
    }

    /** All tokens first, each with its place; then what may come, found from the words of the line at hand. */
    private int readText(String text) {
        Matcher matcher = TOKEN.matcher(text);
        List<String> line = new ArrayList<>();
        int lines = 0;
        int from = 0;
        while (matcher.find(from) && matcher.start() == from && matcher.start(1) < 500) {
            String token = matcher.group(1);
            from = matcher.end();
            boolean isToken = token.matches("[a-z]+|[0-9]{1,3}|;");
            line.add(token);
            fault = isToken ? faultOf(line, lines) : 1;
            if (fault != 0) {
                return -1 - matcher.start(1);
            }
            if (token.equals(";")) {
                line.clear();
                lines++;
            }
        }
        if (text.length() > 500 || !line.isEmpty() || lines == 0) {
            fault = 1;
            return -1 - Math.min(500, text.length());
        }
        return lines;
    }

    private int faultOf(List<String> line, int lines) {
        String word = line.get(0);
        int size = line.size();
        String last = line.get(size - 1);
        int arguments = word.equals("months") ? 1 : word.equals("home") ? 0 : 2;
        if (size == 1) {
            return faultOfWord(word, lines);
        }
        if (size == arguments + 2) {
            return last.equals(";") ? 0 : 1;
        }
        return last.matches("[0-9]+") ? faultOfNumber(line, Integer.parseInt(last)) : 1;
    }

    private int faultOfWord(String word, int lines) {
        switch (word) {
            case "months":
                return lines == 0 ? 0 : 1;
            case "weigh":
                return lines > 0 && homes.isEmpty() ? 0 : 1;
            case "home":
                if (lines == 0 || homes.size() == 6) {
                    return lines == 0 ? 1 : 3;
                }
                homes.add(new TreeMap<>());
                return 0;
            case "sale":
                return homes.isEmpty() ? 1 : sales() == 18 ? 3 : 0;
            default:
                return 1;
        }
    }

    private int faultOfNumber(List<String> line, int number) {
        int size = line.size();
        int before = size == 3 ? Integer.parseInt(line.get(1)) : 0;
        if (line.get(0).equals("months")) {
            months = number;
            return number >= 2 && number <= 8 ? 0 : 2;
        }
        if (line.get(0).equals("weigh")) {
            if (size == 2) {
                return number >= 1 && number < months && !weighs.containsKey(number) ? 0 : 2;
            }
            weighs.put(before, number);
            return number >= 1 && number <= 3 ? 0 : 2;
        }
        TreeMap<Integer, Integer> home = homes.get(homes.size() - 1);
        if (size == 2) {
            return number < months && !home.containsKey(number) ? 0 : 2;
        }
        home.put(before, number);
        return 0;
    }
}
