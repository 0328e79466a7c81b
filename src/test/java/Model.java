import java.math.BigInteger;
import java.util.ArrayList;
import java.util.Arrays;
import java.util.List;
import java.util.TreeMap;

/**
 * A slow twin of RoundRows, written from the document with fractions of long whole numbers, lists and
 * maps; it shares nothing with the class but the numbers of refusals.
 */
final class Model {
    static final int GAP = -1000000;
    static final long LOST = -1000000000000000000L;

    /** A fraction with exact arithmetic. */
    record Q(BigInteger up, BigInteger low) implements Comparable<Q> {
        static final Q ZERO = of(0);

        static Q of(long whole) {
            return new Q(BigInteger.valueOf(whole), BigInteger.ONE);
        }

        static Q of(long up, long low) {
            return of(up).by(of(low));
        }

        private static Q lowest(BigInteger up, BigInteger low) {
            BigInteger divisor = up.gcd(low);
            if (low.signum() < 0) {
                divisor = divisor.negate();
            }
            return new Q(up.divide(divisor), low.divide(divisor));
        }

        Q plus(Q o) {
            return lowest(up.multiply(o.low).add(o.up.multiply(low)), low.multiply(o.low));
        }

        Q less(Q o) {
            return plus(new Q(o.up.negate(), o.low));
        }

        Q times(Q o) {
            return lowest(up.multiply(o.up), low.multiply(o.low));
        }

        Q by(Q o) {
            return lowest(up.multiply(o.low), low.multiply(o.up));
        }

        boolean isZero() {
            return up.signum() == 0;
        }

        @Override
        public int compareTo(Q o) {
            return up.multiply(o.low).compareTo(o.up.multiply(low));
        }

        long part(int part) {
            return (part == 0 ? up : low).longValueExact();
        }

        Q squared() {
            return times(this);
        }
    }

    private record Trial(int row, int length, int percent) { }

    private final Integer[][] rows = new Integer[6][24];
    private final StringBuilder pad = new StringBuilder();
    private final List<Trial> trials = new ArrayList<>();
    private final boolean[] printed = new boolean[20];
    private final int[] readBy = new int[8];
    private int truthBits = 0;
    private int barIs = 50;

    private static boolean in(int v, int from, int to) {
        return from <= v && v <= to;
    }

    // ---- 1

    int year(int row, int year, int v) {
        if (!in(row, 0, 5)) {
            return GAP - 1;
        }
        if (!in(year, 0, 23) || !(v == GAP || in(v, -99, 99))) {
            return GAP - 2;
        }
        Integer was = rows[row][year];
        rows[row][year] = v == GAP ? null : v;
        return was == null ? GAP : was;
    }

    int say(int sign) {
        if (!in(sign, 33, 126)) {
            return -2;
        }
        if (pad.length() == 20) {
            return -4;
        }
        return pad.append((char) sign).length();
    }

    int wipe() {
        int was = pad.length();
        pad.setLength(0);
        return was;
    }

    /** All texts of one part of a dealing. */
    private static final List<String> PARTS = parts();

    private static List<String> parts() {
        List<String> all = new ArrayList<>();
        all.add("d");
        for (int i = 2; i <= 5; i++) {
            all.add("s" + i);
        }
        for (int i = 1; i <= 9; i++) {
            all.add("l" + i);
        }
        for (int from = 0; from < 24; from++) {
            all.add(String.format("t%02d", from));
            for (int till = from; till < 24; till++) {
                all.add(String.format("c%02d%02d", from, till));
            }
        }
        return all;
    }

    /** By all texts that there are: the longest beginning that can still become a dealing. */
    int fault() {
        String rest = pad.toString();
        int place = 0;
        while (!rest.isEmpty()) {
            String whole = null;
            int longest = 0;
            boolean open = false;
            for (String part : PARTS) {
                int same = 0;
                while (same < part.length() && same < rest.length() && part.charAt(same) == rest.charAt(same)) {
                    same++;
                }
                longest = Math.max(longest, same);
                if (same == part.length()) {
                    whole = part;
                } else if (same == rest.length()) {
                    open = true;
                }
            }
            if (whole == null) {
                return open ? pad.length() : place + longest;
            }
            place += whole.length();
            rest = rest.substring(whole.length());
        }
        return -6;
    }

    private boolean hasFault() {
        return fault() != -6;
    }

    private static Integer at(Integer[] row, int year) {
        return year < 0 ? null : row[year];
    }

    private Integer[] deal(int row) {
        Integer[] now = rows[row].clone();
        String text = pad.toString();
        while (!text.isEmpty()) {
            Integer[] next = new Integer[24];
            int took = 1;
            for (int year = 0; year < 24; year++) {
                switch (text.charAt(0)) {
                    case 's' -> {
                        took = 2;
                        Integer sum = 0;
                        for (int i = 0; i < text.charAt(1) - '0'; i++) {
                            Integer one = at(now, year - i);
                            sum = sum == null || one == null ? null : Integer.valueOf(sum + one);
                        }
                        next[year] = sum;
                    }
                    case 'l' -> {
                        took = 2;
                        next[year] = at(now, year - (text.charAt(1) - '0'));
                    }
                    case 't' -> {
                        took = 3;
                        boolean turned = year >= Integer.parseInt(text.substring(1, 3));
                        next[year] = now[year] == null ? null : Integer.valueOf(turned ? -now[year] : now[year]);
                    }
                    case 'c' -> {
                        took = 5;
                        int from = Integer.parseInt(text.substring(1, 3));
                        int till = Integer.parseInt(text.substring(3, 5));
                        next[year] = in(year, from, till) ? now[year] : null;
                    }
                    default -> {
                        Integer one = at(now, year - 1);
                        next[year] = now[year] == null || one == null ? null : Integer.valueOf(now[year] - one);
                    }
                }
                if (next[year] != null) {
                    next[year] = Math.max(-999, Math.min(999, next[year]));
                }
            }
            now = next;
            text = text.substring(took);
        }
        return now;
    }

    int dealt(int row, int year) {
        if (!in(row, 0, 5)) {
            return GAP - 1;
        }
        if (!in(year, 0, 23)) {
            return GAP - 2;
        }
        if (hasFault()) {
            return GAP - 5;
        }
        Integer v = deal(row)[year];
        return v == null ? GAP : v;
    }

    // ---- 2

    private static Q shareOf(Integer[] row, int length) {
        TreeMap<Integer, List<Integer>> heaps = new TreeMap<>();
        List<Integer> all = new ArrayList<>();
        for (int year = 0; year < 24; year++) {
            if (row[year] != null) {
                heaps.computeIfAbsent(year % length, k -> new ArrayList<>()).add(row[year]);
                all.add(row[year]);
            }
        }
        if (all.isEmpty()) {
            return Q.ZERO;
        }
        Q mean = Q.of(sum(all)).squared().by(Q.of(all.size()));
        Q lower = Q.ZERO.less(mean);
        for (int v : all) {
            lower = lower.plus(Q.of(v).squared());
        }
        if (lower.isZero()) {
            return Q.ZERO;
        }
        Q upper = Q.ZERO.less(mean);
        for (List<Integer> heap : heaps.values()) {
            upper = upper.plus(Q.of(sum(heap)).squared().by(Q.of(heap.size())));
        }
        return upper.by(lower);
    }

    private static long sum(List<Integer> list) {
        long sum = 0;
        for (int v : list) {
            sum += v;
        }
        return sum;
    }

    private static Q greatest(Integer[] row, int from, int to) {
        Q best = shareOf(row, from);
        for (int length = from + 1; length <= to; length++) {
            Q one = shareOf(row, length);
            if (one.compareTo(best) > 0) {
                best = one;
            }
        }
        return best;
    }

    long share(int row, int length, int part) {
        if (!in(row, 0, 5)) {
            return LOST - 1;
        }
        if (!in(length, 2, 12) || !in(part, 0, 1)) {
            return LOST - 2;
        }
        return hasFault() ? LOST - 5 : shareOf(deal(row), length).part(part);
    }

    long odds(int row, int length, int part) {
        return tried(row, length, length, part);
    }

    long tried(int row, int from, int to, int part) {
        if (!in(row, 0, 5)) {
            return LOST - 1;
        }
        if (!in(from, 2, 12) || !in(to, 2, 12) || from > to || !in(part, 0, 1)) {
            return LOST - 2;
        }
        if (hasFault()) {
            return LOST - 5;
        }
        Integer[] dealt = deal(row);
        List<Integer> years = yearsOf(dealt);
        if (!in(years.size(), 1, 7)) {
            return LOST - 3;
        }
        long[] counts = new long[2];
        Integer[] order = new Integer[24];
        permute(dealt, years, 0, new boolean[years.size()], order, greatest(dealt, from, to), from, to, counts);
        return Q.of(counts[0], counts[1]).part(part);
    }

    private static void permute(Integer[] dealt, List<Integer> years, int depth, boolean[] used,
            Integer[] order, Q goal, int from, int to, long[] counts) {
        if (depth == years.size()) {
            counts[1]++;
            if (greatest(order, from, to).compareTo(goal) >= 0) {
                counts[0]++;
            }
            return;
        }
        for (int i = 0; i < years.size(); i++) {
            if (!used[i]) {
                used[i] = true;
                order[years.get(depth)] = dealt[years.get(i)];
                permute(dealt, years, depth + 1, used, order, goal, from, to, counts);
                used[i] = false;
            }
        }
    }

    private static List<Integer> yearsOf(Integer[] row) {
        List<Integer> years = new ArrayList<>();
        for (int year = 0; year < 24; year++) {
            if (row[year] != null) {
                years.add(year);
            }
        }
        return years;
    }

    int drawn(int row, int length, int n, int seed) {
        if (!in(row, 0, 5)) {
            return -1;
        }
        if (!in(length, 2, 12) || !in(n, 1, 100) || !in(seed, 1, 1000000)) {
            return -2;
        }
        if (hasFault()) {
            return -5;
        }
        Integer[] order = deal(row);
        Q goal = shareOf(order, length);
        List<Integer> years = yearsOf(order);
        BigInteger s = BigInteger.valueOf(seed);
        int count = 0;
        for (int draw = 0; draw < n; draw++) {
            for (int place = years.size() - 1; place >= 1; place--) {
                s = s.multiply(BigInteger.valueOf(16807)).mod(BigInteger.valueOf(2147483647));
                int other = s.mod(BigInteger.valueOf(place + 1)).intValue();
                Integer kept = order[years.get(place)];
                order[years.get(place)] = order[years.get(other)];
                order[years.get(other)] = kept;
            }
            if (shareOf(order, length).compareTo(goal) >= 0) {
                count++;
            }
        }
        return count;
    }

    // ---- 3

    private static Q togetherOf(Integer[] a, Integer[] b, int k) {
        Integer[] turned = new Integer[24];
        for (int year = 0; year < 24; year++) {
            turned[(year + k) % 24] = b[year];
        }
        List<Integer> xs = new ArrayList<>();
        List<Integer> ys = new ArrayList<>();
        long products = 0;
        for (int year = 0; year < 24; year++) {
            if (a[year] != null && turned[year] != null) {
                xs.add(a[year]);
                ys.add(turned[year]);
                products += (long) a[year] * turned[year];
            }
        }
        Q n = Q.of(xs.size());
        Q lower = spread(xs).times(spread(ys));
        if (lower.isZero()) {
            return Q.ZERO;
        }
        return n.times(Q.of(products)).less(Q.of(sum(xs)).times(Q.of(sum(ys)))).squared().by(lower);
    }

    private static Q spread(List<Integer> list) {
        Q squares = Q.ZERO;
        for (int v : list) {
            squares = squares.plus(Q.of(v).squared());
        }
        return Q.of(list.size()).times(squares).less(Q.of(sum(list)).squared());
    }

    long together(int a, int b, int k, int part) {
        if (!in(a, 0, 5) || !in(b, 0, 5)) {
            return LOST - 1;
        }
        if (!in(k, 0, 23) || !in(part, 0, 1)) {
            return LOST - 2;
        }
        return hasFault() ? LOST - 5 : togetherOf(deal(a), deal(b), k).part(part);
    }

    int go(int a, int b) {
        if (!in(a, 0, 5) || !in(b, 0, 5)) {
            return -1;
        }
        if (hasFault()) {
            return -5;
        }
        int count = 0;
        for (int k = 0; k < 24; k++) {
            if (togetherOf(deal(a), deal(b), k).compareTo(togetherOf(deal(a), deal(b), 0)) >= 0) {
                count++;
            }
        }
        return count;
    }

    long waves(int n, int m, int part) {
        if (!in(n, 3, 12) || !in(m, 1, 5) || !in(part, 0, 1)) {
            return LOST - 2;
        }
        long tops = 0;
        for (int bits = 0; bits < 1 << n; bits++) {
            int[] sums = new int[Math.max(0, n - m + 1)];
            for (int i = 0; i < sums.length; i++) {
                for (int j = i; j < i + m; j++) {
                    sums[i] += (bits >> j & 1) * 2 - 1;
                }
            }
            for (int i = 1; i < sums.length - 1; i++) {
                if (sums[i] > sums[i - 1] && sums[i] > sums[i + 1]) {
                    tops++;
                }
            }
        }
        return Q.of(tops, 1 << n).part(part);
    }

    // ---- 4

    /** The length found, how many held, of how many. */
    private int[] later(int row, int y) {
        Integer[] all = deal(row);
        Integer[] ahead = Arrays.copyOf(Arrays.copyOf(all, y), 24);
        int best = 2;
        for (int length = 3; length <= 12; length++) {
            if (shareOf(ahead, length).compareTo(shareOf(ahead, best)) > 0) {
                best = length;
            }
        }
        int held = 0;
        int of = 0;
        for (int year = y; year < 24; year++) {
            List<Integer> heap = new ArrayList<>();
            List<Integer> numbers = new ArrayList<>();
            for (int z = 0; z < y; z++) {
                if (ahead[z] != null) {
                    numbers.add(ahead[z]);
                    if (z % best == year % best) {
                        heap.add(ahead[z]);
                    }
                }
            }
            if (all[year] != null && !heap.isEmpty()) {
                Q mean = Q.of(sum(numbers), numbers.size());
                int own = Integer.signum(Q.of(all[year]).compareTo(mean));
                int heaps = Integer.signum(Q.of(sum(heap), heap.size()).compareTo(mean));
                if (own * heaps != 0) {
                    of++;
                    held += own == heaps ? 1 : 0;
                }
            }
        }
        return new int[] {best, held, of};
    }

    int found(int row, int y, int what) {
        if (!in(row, 0, 5)) {
            return -1;
        }
        if (!in(y, 4, 22) || !in(what, 0, 2)) {
            return -2;
        }
        return hasFault() ? -5 : later(row, y)[what];
    }

    long luck(int row, int y, int part) {
        if (!in(row, 0, 5)) {
            return LOST - 1;
        }
        if (!in(y, 4, 22) || !in(part, 0, 1)) {
            return LOST - 2;
        }
        if (hasFault()) {
            return LOST - 5;
        }
        int[] seen = later(row, y);
        long ways = 0;
        for (int bits = 0; bits < 1 << seen[2]; bits++) {
            ways += Integer.bitCount(bits) >= seen[1] ? 1 : 0;
        }
        return Q.of(ways, 1L << seen[2]).part(part);
    }

    // ---- 5

    int trial(int row, int length) {
        if (!in(row, 0, 5)) {
            return -1;
        }
        if (!in(length, 2, 12)) {
            return -2;
        }
        if (hasFault()) {
            return -5;
        }
        if (trials.size() == 20) {
            return -4;
        }
        Q hundred = shareOf(deal(row), length).times(Q.of(100));
        trials.add(new Trial(row, length, hundred.up().divide(hundred.low()).intValueExact()));
        return trials.size() - 1;
    }

    int of(int trial, int what) {
        if (!in(trial, 0, trials.size() - 1)) {
            return -1;
        }
        Trial t = trials.get(trial);
        return switch (what) {
            case 0 -> t.row();
            case 1 -> t.length();
            case 2 -> t.percent();
            case 3 -> printed[trial] ? 1 : 0;
            default -> -2;
        };
    }

    int print(int trial, boolean is) {
        if (!in(trial, 0, trials.size() - 1)) {
            return -1;
        }
        int was = printed[trial] ? 1 : 0;
        printed[trial] = is;
        return was;
    }

    long lean(int part) {
        if (!in(part, 0, 1)) {
            return LOST - 2;
        }
        List<Integer> all = new ArrayList<>();
        List<Integer> some = new ArrayList<>();
        for (int i = 0; i < trials.size(); i++) {
            all.add(trials.get(i).percent());
            if (printed[i]) {
                some.add(trials.get(i).percent());
            }
        }
        if (some.isEmpty()) {
            return LOST - 3;
        }
        return Q.of(sum(some), some.size()).less(Q.of(sum(all), all.size())).part(part);
    }

    int reads(int man, int bits) {
        if (!in(man, 0, 7)) {
            return -1;
        }
        if (!in(bits, 0, 1048575)) {
            return -2;
        }
        int was = readBy[man];
        readBy[man] = bits;
        return was;
    }

    int bar(int v) {
        if (!in(v, 0, 100)) {
            return -2;
        }
        int was = barIs;
        barIs = v;
        return was;
    }

    private boolean believes(int man, boolean[] isPrinted) {
        int balance = 0;
        for (int i = 0; i < trials.size(); i++) {
            if (isPrinted[i] && (readBy[man] >> i & 1) == 1) {
                balance += trials.get(i).percent() >= barIs ? 1 : -1;
            }
        }
        return balance > 0;
    }

    int club() {
        int men = 0;
        for (int man = 0; man < 8; man++) {
            men += believes(man, printed) ? 1 << man : 0;
        }
        return men;
    }

    int least(int men, int what) {
        if (!in(men, 0, 255) || !in(what, 0, 1)) {
            return -2;
        }
        List<Integer> open = new ArrayList<>();
        for (int i = 0; i < trials.size() && open.size() < 12; i++) {
            if (!printed[i]) {
                open.add(i);
            }
        }
        int bestBits = -1;
        for (int chosen = 0; chosen < 1 << open.size(); chosen++) {
            boolean[] then = printed.clone();
            int bits = 0;
            for (int i = 0; i < open.size(); i++) {
                if ((chosen >> i & 1) == 1) {
                    then[open.get(i)] = true;
                    bits |= 1 << open.get(i);
                }
            }
            boolean none = true;
            for (int man = 0; man < 8; man++) {
                none &= (men >> man & 1) == 0 || !believes(man, then);
            }
            boolean better = bestBits < 0 || Integer.bitCount(bits) < Integer.bitCount(bestBits)
                || Integer.bitCount(bits) == Integer.bitCount(bestBits) && bits < bestBits;
            if (none && better) {
                bestBits = bits;
            }
        }
        if (bestBits < 0) {
            return -5;
        }
        return what == 0 ? bestBits : Integer.bitCount(bestBits);
    }

    int truth(int bits) {
        if (!in(bits, 0, 1048575)) {
            return -2;
        }
        int was = truthBits;
        truthBits = bits;
        return was;
    }

    int good(int p) {
        if (!in(p, 0, 101)) {
            return GAP - 2;
        }
        int good = 0;
        for (int i = 0; i < trials.size(); i++) {
            if (trials.get(i).percent() >= p) {
                good += (truthBits >> i & 1) == 1 ? 1 : -1;
            }
        }
        return good;
    }

    int best(int what) {
        if (!in(what, 0, 1)) {
            return GAP - 2;
        }
        int best = 101;
        for (int p = 101; p >= 0; p--) {
            if (good(p) >= good(best)) {
                best = p;
            }
        }
        return what == 0 ? best : good(best);
    }

    int told(int what) {
        int bits = 0;
        int trues = 0;
        for (int i = 0; i < trials.size(); i++) {
            bits |= printed[i] ? 1 << i : 0;
            trues |= truthBits & 1 << i;
        }
        return switch (what) {
            case 0 -> pad.length();
            case 1 -> trials.size();
            case 2 -> bits;
            case 3 -> barIs;
            case 4 -> trues;
            case 10, 11, 12, 13, 14, 15 -> yearsOf(rows[what - 10]).size();
            default -> -2;
        };
    }
}
