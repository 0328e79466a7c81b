/** Promises 11 to 13: together, go, waves. */
public final class PairsTest {
    private static final int GAP = RoundRows.GAP;
    private static final long LOST = RoundRows.LOST;
    private static final Check check = new Check("PairsTest");

    public static void main(String[] args) {
        together();
        turned();
        longFractions();
        togetherRefused();
        go();
        goRefused();
        waves();
        wavesRefused();
        check.end();
    }

    private static void together(RoundRows x, int a, int b, int k, long upper, long lower) {
        String call = "together(" + a + ", " + b + ", " + k + ", ";
        check.due(call + "0)", x.together(a, b, k, 0), upper);
        check.due(call + "1)", x.together(a, b, k, 1), lower);
    }

    private static void together() {
        RoundRows x = new RoundRows();
        together(x, 0, 0, 0, 0, 1);
        Check.put(x, 0, 1, 2, 3, GAP, 50);
        Check.put(x, 1, 3, 2, 1, 99, GAP);
        together(x, 0, 1, 0, 1, 1);
        together(x, 0, 0, 0, 1, 1);
        Check.put(x, 1, 1, 0, 0, 99, GAP);
        // n 3: 3 * 1 - 6 * 1 = -3; 42 - 36 = 6; 3 - 1 = 2: 9 by 12
        together(x, 0, 1, 0, 3, 4);
        together(x, 1, 0, 0, 3, 4);
        Check.put(x, 1, 5, 5, 5, 99, GAP);
        together(x, 0, 1, 0, 0, 1);
        Check.put(x, 2, 4, 7);
        Check.put(x, 3, GAP, GAP, 7);
        together(x, 2, 3, 0, 0, 1);
        Check.pad(x, "l2");
        together(x, 0, 0, 0, 1, 1);
        Check.pad(x, "c0001");
        Check.put(x, 1, 9, 1, 5);
        together(x, 0, 1, 0, 1, 1);
    }

    private static void turned() {
        RoundRows x = new RoundRows();
        Check.put(x, 0, 1, 2, 4);
        x.year(1, 23, 1);
        Check.put(x, 1, 2, 5);
        // Turned by 1: years 0, 1, 2 get 1, 2, 5: 3 * 25 - 7 * 8 = 19; 63 - 49 = 14; 90 - 64 = 26
        together(x, 0, 1, 1, 361, 364);
        // By 0: years 0, 1 have 2, 5.
        together(x, 0, 1, 0, 1, 1);
        // By 23: year 0 gets 5 alone.
        together(x, 0, 1, 23, 0, 1);
        // By 3: year 2 alone gets 1 .. years 2, 3, 4.
        together(x, 0, 1, 3, 0, 1);
        // The first one turned by 1: years 1, 2, 3; both have no year but 0 (of 1: 23, 0, 1) and 1.
        together(x, 1, 0, 1, 0, 1);
        together(x, 1, 0, 23, 361, 364);
        // Dealt, then turned: what was cut does not come back, what is turned is not cut.
        Check.pad(x, "c2323");
        x.year(0, 23, 3);
        together(x, 0, 1, 0, 0, 1);
        Check.pad(x, "c2223");
        x.year(0, 22, 1);
        x.year(1, 22, 6);
        together(x, 0, 1, 0, 1, 1);
        together(x, 0, 1, 1, 0, 1);
    }

    /** Rows of 999 and -999 make the longest numbers; compare two fractions near to each other. */
    private static void longFractions() {
        RoundRows x = new RoundRows();
        for (int year = 0; year < 24; year++) {
            x.year(0, year, year % 2 == 0 ? 99 : -99);
            x.year(1, year, year % 2 == 0 ? 99 : -98);
        }
        Check.pad(x, "dddd");
        together(x, 0, 1, 0, 1, 1);
        check.due("go of alternating ones", x.go(0, 1), 24);
        x.year(1, 3, 99);
        x.year(1, 12, -99);
        check.due("go by whole numbers", x.go(0, 1), goByWholeNumbers(x, 0, 1));
    }

    private static int goByWholeNumbers(RoundRows x, int a, int b) {
        int count = 0;
        java.math.BigInteger up = java.math.BigInteger.valueOf(x.together(a, b, 0, 0));
        java.math.BigInteger low = java.math.BigInteger.valueOf(x.together(a, b, 0, 1));
        for (int k = 0; k < 24; k++) {
            java.math.BigInteger upper = java.math.BigInteger.valueOf(x.together(a, b, k, 0));
            java.math.BigInteger lower = java.math.BigInteger.valueOf(x.together(a, b, k, 1));
            if (upper.multiply(low).compareTo(up.multiply(lower)) >= 0) {
                count++;
            }
        }
        return count;
    }

    private static void togetherRefused() {
        RoundRows x = new RoundRows();
        check.due("a", x.together(6, 0, 0, 0), LOST - 1);
        check.due("b", x.together(0, -1, 24, 2), LOST - 1);
        check.due("k -1", x.together(0, 0, -1, 0), LOST - 2);
        check.due("k 24", x.together(0, 0, 24, 0), LOST - 2);
        check.due("k 23", x.together(0, 0, 23, 0), 0);
        check.due("part", x.together(0, 0, 0, 2), LOST - 2);
        check.due("part -1", x.together(0, 0, 0, -1), LOST - 2);
        Check.pad(x, "?");
        check.due("fault", x.together(0, 0, 0, 0), LOST - 5);
        check.due("outside, fault", x.together(0, 0, 24, 0), LOST - 2);
    }

    private static void go() {
        RoundRows x = new RoundRows();
        check.due("none", x.go(0, 0), 24);
        Check.put(x, 0, 1, 2, 4, 3);
        check.due("itself", x.go(0, 0), 3);
        Check.put(x, 1, 9, 9, 9, 9);
        check.due("flat", x.go(0, 1), 24);
        Check.put(x, 2, 1, 0, 0, 1);
        // k 0: 4 * 4 - 10 * 2 = -4: 16 by 20 * 4 = 1 by 5. k 1: 1, 0, 0 at 2, 4, 3: 6 - 9 = -3: 9 by 6 * 2.
        // k 2: 1, 0: 1. k 22: 0, 1: 1. k 23: 0, 0, 1 at 1, 2, 4: 12 - 7 = 5: 25 by 14 * 2. All others 0.
        check.due("by hand", x.go(0, 2), 5);
        // k 0: 4 * 11 - 4 * 5 = 24: 576 by 24 * 27 = 8 by 9. k 23: 2, 0, 0 at 3, 1, 0: 18 - 8 = 10: 100 by 14 * 8
        // = 25 by 28, which is more. k 1: 3, 2, 0 at 1, 0, 0: 9 - 5 = 4: 16 by 28. All others 0.
        Check.put(x, 3, 3, 1, 0, 0);
        Check.put(x, 4, 3, 2, 0, 0);
        together(x, 3, 4, 0, 8, 9);
        together(x, 3, 4, 23, 25, 28);
        check.due("a little more", x.go(3, 4), 2);
        // The same turned back by one year: now 8 by 9 is the other one.
        Check.put(x, 4, 2, 0, 0, GAP);
        x.year(4, 23, 3);
        together(x, 3, 4, 0, 25, 28);
        together(x, 3, 4, 1, 8, 9);
        check.due("a little less", x.go(3, 4), 1);
    }

    private static void goRefused() {
        RoundRows x = new RoundRows();
        check.due("a", x.go(-1, 0), -1);
        check.due("b", x.go(0, 6), -1);
        Check.pad(x, "s6");
        check.due("fault", x.go(0, 0), -5);
        check.due("unknown, fault", x.go(0, 6), -1);
    }

    private static void waves() {
        RoundRows x = new RoundRows();
        for (int n = 3; n <= 12; n++) {
            for (int m = 1; m <= 5; m++) {
                long tops = 0;
                for (int bits = 0; bits < 1 << n; bits++) {
                    tops += topsOf(bits, n, m);
                }
                long divisor = java.math.BigInteger.valueOf(tops).gcd(java.math.BigInteger.valueOf(1 << n)).longValue();
                check.due("waves(" + n + ", " + m + ", 0)", x.waves(n, m, 0), tops / divisor);
                check.due("waves(" + n + ", " + m + ", 1)", x.waves(n, m, 1), (1 << n) / divisor);
            }
        }
        check.due("waves(5, 2, 0)", x.waves(5, 2, 0), 1);
        check.due("waves(5, 2, 1)", x.waves(5, 2, 1), 8);
        Check.pad(x, "?");
        check.due("a fault is nothing to it", x.waves(3, 1, 1), 8);
    }

    private static int topsOf(int bits, int n, int m) {
        int[] smooth = new int[n];
        for (int year = 0; year < n; year++) {
            smooth[year] = GAP;
            if (year >= m - 1) {
                smooth[year] = 0;
                for (int i = 0; i < m; i++) {
                    smooth[year] += (bits >> (year - i) & 1) == 1 ? 1 : -1;
                }
            }
        }
        int tops = 0;
        for (int year = 1; year + 1 < n; year++) {
            boolean there = smooth[year - 1] != GAP && smooth[year] != GAP && smooth[year + 1] != GAP;
            if (there && smooth[year] > smooth[year - 1] && smooth[year] > smooth[year + 1]) {
                tops++;
            }
        }
        return tops;
    }

    private static void wavesRefused() {
        RoundRows x = new RoundRows();
        check.due("n 2", x.waves(2, 1, 0), LOST - 2);
        check.due("n 13", x.waves(13, 1, 0), LOST - 2);
        check.due("n -1", x.waves(-1, 1, 0), LOST - 2);
        check.due("m 0", x.waves(3, 0, 0), LOST - 2);
        check.due("m 6", x.waves(12, 6, 0), LOST - 2);
        check.due("part 2", x.waves(3, 1, 2), LOST - 2);
        check.due("part -1", x.waves(3, 1, -1), LOST - 2);
    }
}
