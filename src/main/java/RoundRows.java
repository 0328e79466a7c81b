/**
 * Rows of numbers by years, the rounds that are seen in them, and the trials, readers and
 * judges that make something of it. What each call answers stands in the project's document.
 *
 * All arrays are made with the object and used again by every call: a call makes nothing new.
 */
public final class RoundRows {
    public static final int UNKNOWN = -1, OUTSIDE = -2, STATE = -3, FULL = -4, NO = -5, NONE = -6;
    public static final long LOST = -1000000000000000000L;
    public static final int GAP = -1000000;

    private static final int TAKEN = 0;
    private static final int ROWS = 6;
    private static final int YEARS = 24;
    private static final int MOST_NUMBER = 99;
    private static final int MOST_DEALT = 999;
    private static final int MOST_SIGNS = 20;
    private static final int FIRST_SIGN = 33;
    private static final int LAST_SIGN = 126;
    private static final int SHORTEST = 2;
    private static final int LONGEST = 12;
    private static final int MOST_ORDERED = 7;
    private static final int MOST_ORDERS = 5040;
    private static final int MOST_DRAWS = 100;
    private static final int MOST_SEED = 1000000;
    private static final int MOST_TRIALS = 20;
    private static final int ALL_TRIALS = (1 << MOST_TRIALS) - 1;
    private static final int MOST_PERCENT = 100;
    private static final int MEN = 8;
    private static final int ALL_MEN = (1 << MEN) - 1;
    private static final int MOST_LOOKED_AT = 12;

    // Every number from 1 to 12 divides it, and no heap has more than 12 of the 24 years:
    // times this, the parts of a SHARE are whole numbers.
    private static final int WHOLE = 27720;

    // Euclid's way takes fewer than 92 steps for any two longs.
    private static final int EUCLID_STEPS = 100;

    private final int[][] rows = new int[ROWS][YEARS];
    private final Pad pad = new Pad();
    private final Dealt dealtRow = new Dealt();
    private final Dealt otherRow = new Dealt();
    private final Rounds rounds = new Rounds();
    private final Orders orders = new Orders();
    private final Later later = new Later();
    private final Fraction fraction = new Fraction();
    private final Fraction otherFraction = new Fraction();
    private final Drawer drawer = new Drawer();
    private final Readers readers = new Readers();

    public RoundRows() {
        for (int row = 0; row < ROWS; row++) {
            for (int year = 0; year < YEARS; year++) {
                rows[row][year] = GAP;
            }
        }
    }

    // ---- 1 rows

    public int year(int row, int year, int v) {
        if (!isRow(row)) {
            return GAP + UNKNOWN;
        }
        if (!isYear(year) || !isNumberOrNone(v)) {
            return GAP + OUTSIDE;
        }
        int was = rows[row][year];
        rows[row][year] = v;
        return was;
    }

    public int say(int sign) {
        if (!isWithin(sign, FIRST_SIGN, LAST_SIGN)) {
            return OUTSIDE;
        }
        if (pad.isFull()) {
            return FULL;
        }
        pad.add(sign);
        return pad.count;
    }

    public int wipe() {
        int was = pad.count;
        pad.clear();
        return was;
    }

    public int fault() {
        return pad.firstFault();
    }

    public int dealt(int row, int year) {
        int refusal = refusalOf(isRow(row), isYear(year));
        if (refusal != TAKEN) {
            return GAP + refusal;
        }
        pad.deal(rows[row], dealtRow.byYear);
        return dealtRow.byYear[year];
    }

    // ---- 2 rounds

    public long share(int row, int length, int part) {
        int refusal = refusalOf(isRow(row), isLength(length) && isPart(part));
        if (refusal != TAKEN) {
            return LOST + refusal;
        }
        putShare(row, length);
        return fraction.partOf(part);
    }

    public long odds(int row, int length, int part) {
        return oddsOfGreatest(row, length, length, part);
    }

    public long tried(int row, int from, int to, int part) {
        return oddsOfGreatest(row, from, to, part);
    }

    public int drawn(int row, int length, int n, int seed) {
        boolean inside = isLength(length) && isWithin(n, 1, MOST_DRAWS) && isWithin(seed, 1, MOST_SEED);
        int refusal = refusalOf(isRow(row), inside);
        if (refusal != TAKEN) {
            return refusal;
        }
        takeRounds(row, YEARS, length, length);
        long goal = rounds.greatest(dealtRow.numbers);
        orders.begin(dealtRow, seed);
        int reached = 0;
        for (int draw = 0; draw < n; draw++) {
            orders.draw();
            if (rounds.reach(orders.numbers, goal)) {
                reached++;
            }
        }
        return reached;
    }

    // ---- 3 two rows, waves

    public long together(int a, int b, int k, int part) {
        int refusal = refusalOf(isRow(a) && isRow(b), isYear(k) && isPart(part));
        if (refusal != TAKEN) {
            return LOST + refusal;
        }
        takeTwo(a, b);
        putTogether(k, fraction);
        return fraction.partOf(part);
    }

    public int go(int a, int b) {
        int refusal = refusalOf(isRow(a) && isRow(b), true);
        if (refusal != TAKEN) {
            return refusal;
        }
        takeTwo(a, b);
        putTogether(0, otherFraction);
        int reached = 0;
        for (int k = 0; k < YEARS; k++) {
            putTogether(k, fraction);
            if (fraction.isAtLeast(otherFraction)) {
                reached++;
            }
        }
        return reached;
    }

    public long waves(int n, int m, int part) {
        if (!isWithin(n, 3, 12) || !isWithin(m, 1, 5) || !isPart(part)) {
            return LOST + OUTSIDE;
        }
        int tops = 0;
        for (int row = 0; row < 1 << n; row++) {
            tops += topsOf(row, n, m);
        }
        fraction.put(tops, 1 << n);
        return fraction.partOf(part);
    }

    // ---- 4 later years

    public int found(int row, int y, int what) {
        int refusal = refusalOf(isRow(row), isDivide(y) && isWithin(what, 0, 2));
        if (refusal != TAKEN) {
            return refusal;
        }
        lookLater(row, y);
        if (what == 0) {
            return later.length;
        }
        return what == 1 ? later.held : later.counted;
    }

    public long luck(int row, int y, int part) {
        int refusal = refusalOf(isRow(row), isDivide(y) && isPart(part));
        if (refusal != TAKEN) {
            return LOST + refusal;
        }
        lookLater(row, y);
        later.putLuck(fraction);
        return fraction.partOf(part);
    }

    // ---- 5 trials, men, rules

    public int trial(int row, int length) {
        int refusal = refusalOf(isRow(row), isLength(length));
        if (refusal != TAKEN) {
            return refusal;
        }
        if (drawer.isFull()) {
            return FULL;
        }
        putShare(row, length);
        drawer.add(row, length, fraction.percent());
        return drawer.count - 1;
    }

    public int of(int trial, int what) {
        if (!drawer.has(trial)) {
            return UNKNOWN;
        }
        switch (what) {
            case 0:
                return drawer.rowOf[trial];
            case 1:
                return drawer.lengthOf[trial];
            case 2:
                return drawer.percentOf[trial];
            case 3:
                return drawer.isPrinted(trial) ? 1 : 0;
            default:
                return OUTSIDE;
        }
    }

    public int print(int trial, boolean is) {
        if (!drawer.has(trial)) {
            return UNKNOWN;
        }
        int was = drawer.isPrinted(trial) ? 1 : 0;
        drawer.setPrinted(trial, is);
        return was;
    }

    public long lean(int part) {
        if (!isPart(part)) {
            return LOST + OUTSIDE;
        }
        if (drawer.printed == 0) {
            return LOST + STATE;
        }
        drawer.putLean(fraction);
        return fraction.partOf(part);
    }

    public int reads(int man, int trials) {
        if (!isWithin(man, 0, MEN - 1)) {
            return UNKNOWN;
        }
        if (!isWithin(trials, 0, ALL_TRIALS)) {
            return OUTSIDE;
        }
        int was = readers.readBy[man];
        readers.readBy[man] = trials;
        return was;
    }

    public int bar(int v) {
        if (!isWithin(v, 0, MOST_PERCENT)) {
            return OUTSIDE;
        }
        int was = readers.bar;
        readers.bar = v;
        return was;
    }

    public int club() {
        return readers.believing(drawer.printed, drawer.kept(readers.bar));
    }

    public int least(int men, int what) {
        if (!isWithin(men, 0, ALL_MEN) || !isWithin(what, 0, 1)) {
            return OUTSIDE;
        }
        int trials = readers.fewestToTurn(men, drawer);
        if (trials == NONE) {
            return NO;
        }
        return what == 0 ? trials : Integer.bitCount(trials);
    }

    public int truth(int trials) {
        if (!isWithin(trials, 0, ALL_TRIALS)) {
            return OUTSIDE;
        }
        int was = drawer.trueOnes;
        drawer.trueOnes = trials;
        return was;
    }

    public int good(int p) {
        if (!isWithin(p, 0, MOST_PERCENT + 1)) {
            return GAP + OUTSIDE;
        }
        return drawer.goodBy(p);
    }

    public int best(int what) {
        if (!isWithin(what, 0, 1)) {
            return GAP + OUTSIDE;
        }
        int rule = drawer.bestRule();
        return what == 0 ? rule : drawer.goodBy(rule);
    }

    public int told(int what) {
        switch (what) {
            case 0:
                return pad.count;
            case 1:
                return drawer.count;
            case 2:
                return drawer.printed;
            case 3:
                return readers.bar;
            case 4:
                return drawer.trueOnes & drawer.all();
            default:
                return isRow(what - 10) ? numbersIn(rows[what - 10]) : OUTSIDE;
        }
    }

    // ---- what calls share

    private static boolean isWithin(int v, int least, int most) {
        return v >= least && v <= most;
    }

    private static boolean isRow(int row) {
        return isWithin(row, 0, ROWS - 1);
    }

    private static boolean isYear(int year) {
        return isWithin(year, 0, YEARS - 1);
    }

    private static boolean isDivide(int year) {
        return isWithin(year, 4, 22);
    }

    private static boolean isLength(int length) {
        return isWithin(length, SHORTEST, LONGEST);
    }

    private static boolean isPart(int part) {
        return isWithin(part, 0, 1);
    }

    private static boolean isNumberOrNone(int v) {
        return v == GAP || isWithin(v, -MOST_NUMBER, MOST_NUMBER);
    }

    /** The refusal of a call that works with the PAD, or TAKEN. */
    private int refusalOf(boolean known, boolean inside) {
        if (!known) {
            return UNKNOWN;
        }
        if (!inside) {
            return OUTSIDE;
        }
        return pad.firstFault() == NONE ? TAKEN : NO;
    }

    private static int numbersIn(int[] row) {
        int n = 0;
        for (int year = 0; year < YEARS; year++) {
            if (row[year] != GAP) {
                n++;
            }
        }
        return n;
    }

    private void takeRounds(int row, int end, int from, int to) {
        pad.deal(rows[row], dealtRow.byYear);
        dealtRow.gather(end);
        rounds.lay(dealtRow, from, to);
    }

    private void takeTwo(int a, int b) {
        pad.deal(rows[a], dealtRow.byYear);
        pad.deal(rows[b], otherRow.byYear);
    }

    private void putShare(int row, int length) {
        takeRounds(row, YEARS, length, length);
        long n = dealtRow.n;
        long sum = dealtRow.sum();
        long upper = n * rounds.greatest(dealtRow.numbers) - WHOLE * sum * sum;
        fraction.put(upper, WHOLE * (n * dealtRow.squares() - sum * sum));
    }

    private long oddsOfGreatest(int row, int from, int to, int part) {
        boolean inside = isLength(from) && isLength(to) && from <= to && isPart(part);
        int refusal = refusalOf(isRow(row), inside);
        if (refusal != TAKEN) {
            return LOST + refusal;
        }
        takeRounds(row, YEARS, from, to);
        if (!isWithin(dealtRow.n, 1, MOST_ORDERED)) {
            return LOST + STATE;
        }
        countOrders();
        return fraction.partOf(part);
    }

    /**
     * Orders that look alike are counted once: each of them stands for as many of all orders
     * as any other does, so that the fraction is the same.
     */
    private void countOrders() {
        long goal = rounds.greatest(dealtRow.numbers);
        orders.begin(dealtRow, 1);
        orders.sort();
        int all = 0;
        int reached = 0;
        boolean more = true;
        while (more && all < MOST_ORDERS) {
            all++;
            if (rounds.reach(orders.numbers, goal)) {
                reached++;
            }
            more = orders.next();
        }
        fraction.put(reached, all);
    }

    private void putTogether(int k, Fraction out) {
        long n = 0;
        long sumA = 0;
        long sumB = 0;
        long squaresA = 0;
        long squaresB = 0;
        long products = 0;
        for (int year = 0; year < YEARS; year++) {
            long a = dealtRow.byYear[year];
            long b = otherRow.byYear[(year + YEARS - k) % YEARS];
            if (a != GAP && b != GAP) {
                n++;
                sumA += a;
                sumB += b;
                squaresA += a * a;
                squaresB += b * b;
                products += a * b;
            }
        }
        long upper = n * products - sumA * sumB;
        out.put(upper * upper, (n * squaresA - sumA * sumA) * (n * squaresB - sumB * sumB));
    }

    /**
     * Years of one row that are above both beside them. The row's bits tell its ones; a sum of m
     * is above the one ahead of it, if a 1 comes in and a -1 goes out.
     */
    private static int topsOf(int row, int n, int m) {
        int left = row << m;
        int rises = row & ~left;
        int falls = left & ~row;
        int haveBothBeside = ((1 << (n - 1)) - 1) & -(1 << m);
        return Integer.bitCount(rises & (falls >> 1) & haveBothBeside);
    }

    private void lookLater(int row, int y) {
        takeRounds(row, y, SHORTEST, LONGEST);
        later.look(dealtRow, y, rounds.firstGreatest(dealtRow.numbers));
    }

    /** The signs that were said, and what they do to a row. */
    private static final class Pad {
        private final int[] signs = new int[MOST_SIGNS];
        private int count = 0;

        boolean isFull() {
            return count >= MOST_SIGNS;
        }

        void add(int sign) {
            if (!isFull()) {
                signs[count] = sign;
                count++;
            }
        }

        void clear() {
            count = 0;
        }

        int firstFault() {
            int at = 0;
            while (at < count) {
                int digits = digitsBehind(signs[at]);
                if (digits == NONE) {
                    return at;
                }
                for (int i = 1; i <= digits; i++) {
                    if (at + i >= count) {
                        return count;
                    }
                    if (!canStand(at, i)) {
                        return at + i;
                    }
                }
                at += 1 + digits;
            }
            return NONE;
        }

        /** Puts a row, DEALT as all signs tell, into another; the PAD is without a FAULT. */
        void deal(int[] row, int[] out) {
            for (int year = 0; year < YEARS; year++) {
                out[year] = row[year];
            }
            int at = 0;
            while (at < count) {
                work(at, out);
                at += 1 + Math.max(0, digitsBehind(signs[at]));
            }
        }

        private void work(int at, int[] row) {
            switch (signs[at]) {
                case 's':
                    smooth(row, digitAt(at + 1));
                    break;
                case 'l':
                    lag(row, digitAt(at + 1));
                    break;
                case 't':
                    turn(row, twoDigitsAt(at + 1));
                    break;
                case 'c':
                    cut(row, twoDigitsAt(at + 1), twoDigitsAt(at + 3));
                    break;
                case 'd':
                    differ(row);
                    break;
                default:
                    break;
            }
        }

        private static int digitsBehind(int sign) {
            switch (sign) {
                case 'd':
                    return 0;
                case 's':
                case 'l':
                    return 1;
                case 't':
                    return 2;
                case 'c':
                    return 4;
                default:
                    return NONE;
            }
        }

        /** The digit at a place; NONE, if there is none. */
        private int digitAt(int place) {
            if (place < 0 || place >= count) {
                return NONE;
            }
            return signs[place] >= '0' && signs[place] <= '9' ? signs[place] - '0' : NONE;
        }

        private int twoDigitsAt(int place) {
            return 10 * digitAt(place) + digitAt(place + 1);
        }

        /** Whether the i-th sign behind the letter can stand, if all ahead of it can. */
        private boolean canStand(int letter, int i) {
            int digit = digitAt(letter + i);
            if (digit == NONE) {
                return false;
            }
            switch (signs[letter]) {
                case 's':
                    return isWithin(digit, 2, 5);
                case 'l':
                    return digit >= 1;
                default:
                    return canStandInYear(letter, i, digit);
            }
        }

        /** A year's first digit can stand, if one that begins so is not ahead of the CUT's from. */
        private boolean canStandInYear(int letter, int i, int digit) {
            int first = i > 2 ? twoDigitsAt(letter + 1) : 0;
            if (i % 2 == 1) {
                return 10 * digit < YEARS && 10 * digit + 9 >= first;
            }
            return isWithin(10 * digitAt(letter + i - 1) + digit, first, YEARS - 1);
        }

        // A year needs none that is behind it: from the last one down, a row is worked in its place.

        private static void smooth(int[] row, int m) {
            for (int year = YEARS - 1; year >= 0; year--) {
                int sum = 0;
                for (int i = 0; i < m && sum != GAP; i++) {
                    int one = numberAt(row, year - i);
                    sum = one == GAP ? GAP : sum + one;
                }
                row[year] = hold(sum);
            }
        }

        private static void lag(int[] row, int by) {
            for (int year = YEARS - 1; year >= 0; year--) {
                row[year] = numberAt(row, year - by);
            }
        }

        private static void turn(int[] row, int from) {
            for (int year = Math.max(0, from); year < YEARS; year++) {
                if (row[year] != GAP) {
                    row[year] = -row[year];
                }
            }
        }

        private static void cut(int[] row, int from, int till) {
            for (int year = 0; year < YEARS; year++) {
                if (!isWithin(year, from, till)) {
                    row[year] = GAP;
                }
            }
        }

        private static void differ(int[] row) {
            for (int year = YEARS - 1; year >= 0; year--) {
                int before = numberAt(row, year - 1);
                boolean both = row[year] != GAP && before != GAP;
                row[year] = both ? hold(row[year] - before) : GAP;
            }
        }

        private static int numberAt(int[] row, int year) {
            return year >= 0 && year < YEARS ? row[year] : GAP;
        }

        private static int hold(int v) {
            return v == GAP ? GAP : Math.max(-MOST_DEALT, Math.min(MOST_DEALT, v));
        }
    }

    /** A DEALT row: by years, and its numbers alone, with the years that have them. */
    private static final class Dealt {
        private final int[] byYear = new int[YEARS];
        private final int[] numbers = new int[YEARS];
        private final int[] years = new int[YEARS];
        private int n = 0;

        /** Gathers the numbers of years ahead of one. */
        void gather(int end) {
            n = 0;
            for (int year = 0; year < YEARS && year < end; year++) {
                if (byYear[year] != GAP) {
                    numbers[n] = byYear[year];
                    years[n] = year;
                    n++;
                }
            }
        }

        long sum() {
            long sum = 0;
            for (int i = 0; i < n; i++) {
                sum += numbers[i];
            }
            return sum;
        }

        long squares() {
            long squares = 0;
            for (int i = 0; i < n; i++) {
                squares += (long) numbers[i] * numbers[i];
            }
            return squares;
        }
    }

    /** The heaps of a round of one length. */
    private static final class Round {
        private final int[] places = new int[YEARS];
        private final long[] weights = new long[YEARS];
        private int n = 0;

        /** Puts places heap by heap; the last place of a heap bears its weight, the others 0. */
        void lay(Dealt dealt, int length) {
            n = 0;
            for (int left = 0; left < length; left++) {
                int start = n;
                for (int place = 0; place < dealt.n; place++) {
                    if (dealt.years[place] % length == left) {
                        places[n] = place;
                        weights[n] = 0;
                        n++;
                    }
                }
                if (n > start) {
                    weights[n - 1] = WHOLE / (n - start);
                }
            }
        }

        /**
         * Of each heap its sum times itself by how many are in it, all together, times WHOLE.
         * All else in a SHARE is the same for all orders and all lengths: of two SHARES of
         * the same numbers that is greater whose weight is.
         */
        long weigh(int[] numbers) {
            long all = 0;
            long sum = 0;
            for (int i = 0; i < n; i++) {
                sum += numbers[places[i]];
                if (weights[i] != 0) {
                    all += weights[i] * sum * sum;
                    sum = 0;
                }
            }
            return all;
        }
    }

    /** Rounds of lengths from one to another, for the numbers of one DEALT row. */
    private static final class Rounds {
        private final Round[] ofLength = new Round[LONGEST + 1];
        private int from = SHORTEST;
        private int to = SHORTEST;

        Rounds() {
            for (int length = 0; length <= LONGEST; length++) {
                ofLength[length] = new Round();
            }
        }

        void lay(Dealt dealt, int first, int last) {
            from = Math.max(SHORTEST, Math.min(LONGEST, first));
            to = Math.max(SHORTEST, Math.min(LONGEST, last));
            for (int length = from; length <= to; length++) {
                ofLength[length].lay(dealt, length);
            }
        }

        /** The first length whose weight is the greatest. */
        int firstGreatest(int[] numbers) {
            int best = from;
            long greatest = -1;
            for (int length = from; length <= to; length++) {
                long weight = ofLength[length].weigh(numbers);
                if (weight > greatest) {
                    greatest = weight;
                    best = length;
                }
            }
            return best;
        }

        long greatest(int[] numbers) {
            return ofLength[firstGreatest(numbers)].weigh(numbers);
        }

        /** Whether one weighs so much; long ones first, as more of a row goes in these. */
        boolean reach(int[] numbers, long goal) {
            for (int length = to; length >= from; length--) {
                if (ofLength[length].weigh(numbers) >= goal) {
                    return true;
                }
            }
            return false;
        }
    }

    /** One order of numbers after another. */
    private static final class Orders {
        private final int[] numbers = new int[YEARS];
        private int n = 0;
        private long seed = 1;

        void begin(Dealt dealt, int first) {
            n = dealt.n;
            seed = first;
            for (int i = 0; i < n; i++) {
                numbers[i] = dealt.numbers[i];
            }
        }

        void draw() {
            for (int place = n - 1; place > 0; place--) {
                seed = seed * 16807 % 2147483647;
                swap(place, (int) (seed % (place + 1)));
            }
        }

        void sort() {
            for (int end = 1; end < n; end++) {
                for (int i = end; i > 0 && numbers[i - 1] > numbers[i]; i--) {
                    swap(i - 1, i);
                }
            }
        }

        /** The next greater order; whether there is one. */
        boolean next() {
            int rise = n - 2;
            while (rise >= 0 && numbers[rise] >= numbers[rise + 1]) {
                rise--;
            }
            if (rise < 0) {
                return false;
            }
            int greater = n - 1;
            while (greater > rise && numbers[greater] <= numbers[rise]) {
                greater--;
            }
            swap(rise, greater);
            for (int i = rise + 1, j = n - 1; i < j; i++, j--) {
                swap(i, j);
            }
            return true;
        }

        private void swap(int i, int j) {
            int kept = numbers[i];
            numbers[i] = numbers[j];
            numbers[j] = kept;
        }
    }

    /** A fraction in lowest terms, its lower number above 0. */
    private static final class Fraction {
        private long upper = 0;
        private long lower = 1;

        void put(long up, long low) {
            long divisor = commonDivisor(Math.abs(up), low);
            if (up == 0 || low <= 0 || divisor <= 0) {
                upper = 0;
                lower = 1;
            } else {
                upper = up / divisor;
                lower = low / divisor;
            }
        }

        long partOf(int part) {
            return part == 0 ? upper : lower;
        }

        int percent() {
            return lower > 0 ? (int) (MOST_PERCENT * upper / lower) : 0;
        }

        /**
         * Of fractions that are not below 0. Products across would be too long: so the whole
         * parts are held against each other, then what is left, turned over.
         */
        boolean isAtLeast(Fraction other) {
            long a = upper;
            long b = lower;
            long c = other.upper;
            long d = other.lower;
            boolean turned = false;
            for (int step = 0; step < EUCLID_STEPS && b > 0 && d > 0; step++) {
                if (a / b != c / d) {
                    return (a / b > c / d) != turned;
                }
                long leftOfA = a % b;
                long leftOfC = c % d;
                a = b;
                b = leftOfA;
                c = d;
                d = leftOfC;
                turned = !turned;
            }
            // One with nothing left is the greater one, turned over.
            return b == d || (b < d) != turned;
        }

        private static long commonDivisor(long a, long b) {
            long x = a;
            long y = b;
            for (int step = 0; step < EUCLID_STEPS && y != 0; step++) {
                long left = x % y;
                x = y;
                y = left;
            }
            return x;
        }
    }

    /** A round found ahead of a year, held against the years from there on. */
    private static final class Later {
        private int length = SHORTEST;
        private int held = 0;
        private int counted = 0;

        void look(Dealt ahead, int y, int foundLength) {
            length = foundLength;
            held = 0;
            counted = 0;
            for (int year = Math.max(0, y); year < YEARS; year++) {
                if (ahead.byYear[year] != GAP) {
                    lookAt(ahead, year);
                }
            }
        }

        private void lookAt(Dealt ahead, int year) {
            long sum = ahead.sum();
            int sideOfYear = Long.compare((long) ahead.byYear[year] * ahead.n, sum);
            int sideOfHeap = sideOfHeap(ahead, year, sum);
            if (sideOfYear != 0 && sideOfHeap != 0) {
                counted++;
                if (sideOfYear == sideOfHeap) {
                    held++;
                }
            }
        }

        /** Whether the mean of a year's heap is above (1) the mean of all, below (-1) or alike; 0 of none, too. */
        private int sideOfHeap(Dealt ahead, int year, long sum) {
            long heapSum = 0;
            long heapSize = 0;
            for (int i = 0; i < ahead.n && length > 0; i++) {
                if (ahead.years[i] % length == year % length) {
                    heapSum += ahead.numbers[i];
                    heapSize++;
                }
            }
            return Long.compare(heapSum * ahead.n, sum * heapSize);
        }

        void putLuck(Fraction out) {
            long ways = 1;
            long asMany = 0;
            for (int i = 0; i <= counted; i++) {
                if (i >= held) {
                    asMany += ways;
                }
                ways = ways * (counted - i) / (i + 1);
            }
            out.put(asMany, 1L << counted);
        }
    }

    /** Trials, which of them are printed, which are true. */
    private static final class Drawer {
        private final int[] rowOf = new int[MOST_TRIALS];
        private final int[] lengthOf = new int[MOST_TRIALS];
        private final int[] percentOf = new int[MOST_TRIALS];
        private int count = 0;
        private int printed = 0;
        private int trueOnes = 0;

        boolean isFull() {
            return count >= MOST_TRIALS;
        }

        boolean has(int trial) {
            return trial >= 0 && trial < count;
        }

        int all() {
            return (1 << count) - 1;
        }

        void add(int row, int length, int percent) {
            if (!isFull()) {
                rowOf[count] = row;
                lengthOf[count] = length;
                percentOf[count] = percent;
                count++;
            }
        }

        boolean isPrinted(int trial) {
            return ((printed >> trial) & 1) == 1;
        }

        void setPrinted(int trial, boolean is) {
            int bit = 1 << trial;
            printed = is ? printed | bit : printed & ~bit;
        }

        /** The mean of the printed ones less that of all. */
        void putLean(Fraction out) {
            long sum = 0;
            long printedSum = 0;
            for (int trial = 0; trial < count; trial++) {
                sum += percentOf[trial];
                if (isPrinted(trial)) {
                    printedSum += percentOf[trial];
                }
            }
            long printedCount = Integer.bitCount(printed);
            out.put(printedSum * count - sum * printedCount, printedCount * count);
        }

        /** Trials with so many percent or more, as bits. */
        int kept(int percent) {
            int bits = 0;
            for (int trial = 0; trial < count; trial++) {
                if (percentOf[trial] >= percent) {
                    bits |= 1 << trial;
                }
            }
            return bits;
        }

        int goodBy(int rule) {
            int bits = kept(rule);
            return Integer.bitCount(bits & trueOnes) - Integer.bitCount(bits & ~trueOnes);
        }

        int bestRule() {
            int best = 0;
            int greatest = goodBy(0);
            for (int rule = 1; rule <= MOST_PERCENT + 1; rule++) {
                int good = goodBy(rule);
                if (good > greatest) {
                    greatest = good;
                    best = rule;
                }
            }
            return best;
        }

        /** The first trials that are not printed, no more than are looked at, as bits. */
        int firstUnprinted() {
            int bits = 0;
            int looked = 0;
            for (int trial = 0; trial < count && looked < MOST_LOOKED_AT; trial++) {
                if (!isPrinted(trial)) {
                    bits |= 1 << trial;
                    looked++;
                }
            }
            return bits;
        }
    }

    /** The men of the club, and what they read. */
    private static final class Readers {
        private final int[] readBy = new int[MEN];
        private int bar = 50;

        /** Men who believe, if these trials are printed and those have the bar or more. */
        int believing(int printed, int high) {
            int men = 0;
            for (int man = 0; man < MEN; man++) {
                int read = readBy[man] & printed;
                if (Integer.bitCount(read & high) > Integer.bitCount(read & ~high)) {
                    men |= 1 << man;
                }
            }
            return men;
        }

        /** The fewest trials to print so that none of these men believes, the least such as bits; NONE. */
        int fewestToTurn(int men, Drawer drawer) {
            int high = drawer.kept(bar);
            int open = drawer.firstUnprinted();
            int ways = 1 << Integer.bitCount(open);
            int fewest = NONE;
            int some = 0;
            for (int way = 0; way < ways; way++) {
                boolean fewer = fewest == NONE || Integer.bitCount(some) < Integer.bitCount(fewest);
                if (fewer && (believing(drawer.printed | some, high) & men) == 0) {
                    fewest = some;
                }
                // The next greater number whose bits are all open ones.
                some = (some - open) & open;
            }
            return fewest;
        }
    }
}
