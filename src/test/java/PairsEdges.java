import java.math.BigInteger;

/** Promises 11 to 13, edge by edge: together, go, waves. */
final class PairsEdges {
    private static final int GAP = Edge.GAP;
    private static final long LOST = Edge.LOST;

    private PairsEdges() { }

    private static void due(String call, long got, long want) {
        Edge.due(call, got, want);
    }

    // ---- Promise 11: "TOGETHER of two ROWS, both DEALT as the PAD tells, the second one TURNED by k. UNKNOWN, OUTSIDE, NO."

    private static void together(RoundRows x, int k, long upper, long lower) {
        due("together(0, 1, " + k + ", 0)", x.together(0, 1, k, 0), upper);
        due("together(0, 1, " + k + ", 1)", x.together(0, 1, k, 1), lower);
    }

    static void promise11WithoutNumbersItIs0By1() {
        RoundRows x = new RoundRows();
        together(x, 0, 0, 1);
        together(x, 23, 0, 1);
        Check.put(x, 0, 1, 2, 3);
        together(x, 0, 0, 1);
    }

    /** "in YEARS in which both have numbers": there is no such one. */
    static void promise11NoYearInCommonIs0By1() {
        RoundRows x = new RoundRows();
        Check.put(x, 0, 1, 2, 3);
        Check.put(x, 1, GAP, GAP, GAP, 1, 2, 3);
        together(x, 0, 0, 1);
        // Turned by 21 YEAR 3 comes to YEAR 0.
        together(x, 21, 1, 1);
    }

    static void promise11OneYearInCommonIs0By1() {
        RoundRows x = new RoundRows();
        Check.put(x, 0, 1, 2, 3);
        Check.put(x, 1, GAP, GAP, 9, 1, 2);
        together(x, 0, 0, 1);
    }

    static void promise11TwoYearsInCommonAre1By1() {
        RoundRows x = new RoundRows();
        Check.put(x, 0, 1, 2);
        Check.put(x, 1, 99, -99);
        together(x, 0, 1, 1);
    }

    /** "0 by 1, if that is 0": one ROW is flat, or the other. */
    static void promise11FlatRowIs0By1() {
        RoundRows x = new RoundRows();
        Check.put(x, 0, 1, 2, 3);
        Check.put(x, 1, 5, 5, 5);
        together(x, 0, 0, 1);
        Check.put(x, 0, 5, 5, 5);
        together(x, 0, 0, 1);
        Check.put(x, 1, 1, 2, 3);
        together(x, 0, 0, 1);
    }

    /** The upper one is 0, the lower one is not. */
    static void promise11NothingTogetherIs0By1() {
        RoundRows x = new RoundRows();
        Check.put(x, 0, 1, 2, 1);
        Check.put(x, 1, 1, 5, 9);
        together(x, 0, 0, 1);
    }

    /** What goes against each other goes together as well: it is times itself. */
    static void promise11AgainstEachOtherIs1By1() {
        RoundRows x = new RoundRows();
        Check.put(x, 0, 1, 2, 3);
        Check.put(x, 1, 3, 2, 1);
        together(x, 0, 1, 1);
    }

    /** "each YEAR gets what stood k YEARS ahead, round from 0 to 23": YEAR 23 comes to YEAR 0 by 1. */
    static void promise11TurnedBy1GoesRound() {
        RoundRows x = new RoundRows();
        Check.put(x, 0, 1, 2, 4);
        x.year(1, 23, 1);
        Check.put(x, 1, 2, 5);
        // 3 * 25 - 7 * 8 = 19; 63 - 49 = 14; 90 - 64 = 26
        together(x, 1, 361, 364);
        // By 0 YEARS 0 and 1 are in common alone.
        together(x, 0, 1, 1);
    }

    /** Turned by 23: YEAR 0 comes to YEAR 23, all others one YEAR ahead. */
    static void promise11TurnedBy23GoesRound() {
        RoundRows x = new RoundRows();
        x.year(0, 22, 1);
        x.year(0, 23, 2);
        x.year(0, 0, 4);
        x.year(1, 23, 1);
        x.year(1, 0, 2);
        x.year(1, 1, 5);
        together(x, 23, 361, 364);
        // By 1: YEAR 22 has none, YEAR 23 has none, YEAR 0 has 1: one YEAR in common.
        together(x, 1, 0, 1);
    }

    /** It is the second ROW that is turned, not the first. */
    static void promise11TheFirstRowIsNotTurned() {
        RoundRows x = new RoundRows();
        x.year(0, 0, 1);
        x.year(0, 1, 2);
        x.year(1, 23, 1);
        x.year(1, 0, 2);
        together(x, 1, 1, 1);
        due("the other way round", x.together(1, 0, 1, 1) + x.together(1, 0, 1, 0), 1);
        due("the other way round by 23", x.together(1, 0, 23, 0), 1);
    }

    /** DEALT first, TURNED behind: a CUT's YEARS are those of the ROW as told. */
    static void promise11DealtAheadOfTurned() {
        RoundRows x = new RoundRows();
        Check.put(x, 0, 1, 2, 4, 8);
        Check.put(x, 1, 3, 5, 6, 9);
        Check.pad(x, "c0001");
        together(x, 0, 1, 1);
        // The second ROW's YEARS 0 and 1 come to 1 and 2, of which the first has 1 alone.
        together(x, 1, 0, 1);
    }

    static void promise11ARowWithItself() {
        RoundRows x = Edge.used();
        due("upper", x.together(1, 1, 0, 0), 1);
        due("lower", x.together(1, 1, 0, 1), 1);
    }

    /** All YEARS at -999 and 999: the longest numbers that there are. */
    static void promise11LongestNumbers() {
        RoundRows x = new RoundRows();
        for (int year = 0; year < 24; year++) {
            x.year(0, year, year % 2 == 0 ? 99 : -99);
            x.year(1, year, year % 2 == 0 ? -99 : 99);
        }
        Check.pad(x, "dddd");
        due("held", x.dealt(0, 23), -999);
        together(x, 0, 1, 1);
        together(x, 23, 1, 1);
        // The last one turned: its fourth difference is 1386 for 1584, held to 999 as that was.
        x.year(1, 23, -99);
        together(x, 0, 1, 1);
    }

    static void promise11AskingChangesNothing() {
        Edge.onlyAsks("together(0, 1, 1, 1)", x -> x.together(0, 1, 1, 1));
    }

    static void promise11KTooSmallOrTooLarge() {
        Edge.refused("k -1", x -> x.together(0, 1, -1, 0), LOST - 2);
        Edge.refused("k 24", x -> x.together(0, 1, 24, 0), LOST - 2);
    }

    static void promise11PartTooSmallOrTooLarge() {
        Edge.refused("part -1", x -> x.together(0, 1, 0, -1), LOST - 2);
        Edge.refused("part 2", x -> x.together(0, 1, 0, 2), LOST - 2);
    }

    static void promise11FirstRowTooSmallOrTooLarge() {
        Edge.refused("a -1", x -> x.together(-1, 1, 0, 0), LOST - 1);
        Edge.refused("a 6", x -> x.together(6, 1, 0, 0), LOST - 1);
        due("a 5", Edge.used().together(5, 0, 0, 1), 1);
    }

    static void promise11SecondRowTooSmallOrTooLarge() {
        Edge.refused("b -1", x -> x.together(0, -1, 0, 0), LOST - 1);
        Edge.refused("b 6", x -> x.together(0, 6, 0, 0), LOST - 1);
        due("b 5", Edge.used().together(0, 5, 0, 1), 1);
    }

    static void promise11AFaultIsNo() {
        Edge.refused("a fault", Edge::faulty, x -> x.together(0, 1, 0, 0), LOST - 5);
        Edge.refused("a fault, none", Edge::faulty, x -> x.together(2, 3, 23, 1), LOST - 5);
    }

    static void promise11TheFirstRefusalThatFits() {
        Edge.refused("a, all", Edge::faulty, x -> x.together(6, 0, 24, 2), LOST - 1);
        Edge.refused("b, all", Edge::faulty, x -> x.together(0, 6, 24, 2), LOST - 1);
        Edge.refused("k, fault", Edge::faulty, x -> x.together(0, 1, 24, 0), LOST - 2);
        Edge.refused("part, fault", Edge::faulty, x -> x.together(0, 1, 0, 2), LOST - 2);
    }

    static void promise11FarNumbers() {
        for (int far : Edge.FAR) {
            Edge.refused("a " + far, x -> x.together(far, 0, 0, 0), LOST - 1);
            Edge.refused("b " + far, x -> x.together(0, far, 0, 0), LOST - 1);
            Edge.refused("k " + far, x -> x.together(0, 1, far, 0), LOST - 2);
            Edge.refused("part " + far, x -> x.together(0, 1, 0, far), LOST - 2);
        }
    }

    // ---- Promise 12: "GO. UNKNOWN; NO: a FAULT."

    /** All are 0 by 1: all 24 make as much as k 0 does. */
    static void promise12WithoutNumbersAll24Do() {
        due("none at all", new RoundRows().go(0, 5), 24);
        RoundRows x = Edge.used();
        due("one without", x.go(0, 3), 24);
        due("the other without", x.go(3, 0), 24);
    }

    static void promise12FlatRowAll24Do() {
        RoundRows x = new RoundRows();
        Check.put(x, 0, 1, 2, 4, 3);
        Check.put(x, 1, 9, 9, 9, 9);
        due("flat", x.go(0, 1), 24);
    }

    /** k 0 itself always does: here it alone does. */
    static void promise12OneAtLeast() {
        RoundRows x = new RoundRows();
        for (int year = 0; year < 24; year++) {
            x.year(0, year, year * year % 23);
        }
        x.year(0, 0, 50);
        due("itself", x.go(0, 0), 1);
    }

    /** "as much as k 0 does": 1 by 1 by 0, 2 (1 2 at 4 3) and 22. */
    static void promise12AsMuchCounts() {
        RoundRows x = new RoundRows();
        Check.put(x, 0, 1, 2, 4, 3);
        due("itself", x.go(0, 0), 3);
    }

    /** "or more": by 0 it is 0 by 1, so that all count. */
    static void promise12MoreCounts() {
        RoundRows x = new RoundRows();
        Check.put(x, 0, 1, 2, 1);
        Check.put(x, 1, 1, 5, 9);
        due("nothing together by 0", x.go(0, 1), 24);
    }

    /** k 0: 576 by 24 times 27 = 8 by 9. k 23: 100 by 14 times 8 = 25 by 28, a little more. k 1: 16 by 28. */
    static void promise12ALittleMoreCounts() {
        RoundRows x = new RoundRows();
        Check.put(x, 0, 3, 1, 0, 0);
        Check.put(x, 1, 3, 2, 0, 0);
        due("8 by 9 and 25 by 28", x.go(0, 1), 2);
    }

    /** The same, the second ROW one YEAR ahead: now 25 by 28 is that of k 0. */
    static void promise12ALittleLessDoesNotCount() {
        RoundRows x = new RoundRows();
        Check.put(x, 0, 3, 1, 0, 0);
        Check.put(x, 1, 2, 0, 0);
        x.year(1, 23, 3);
        due("25 by 28 and 8 by 9", x.go(0, 1), 1);
    }

    /** Fractions whose products across do not fit a long: wrapped round, they would count otherwise. */
    static void promise12LongFractionsDoNotWrapRound() {
        RoundRows x = new RoundRows();
        for (int year = 0; year < 24; year++) {
            x.year(0, year, year * year * 23 % 199 - 99);
            x.year(1, year, year * year * year * 23 % 197 - 98);
        }
        Check.pad(x, "s2");
        int want = 0;
        int wrapped = 0;
        for (int k = 0; k < 24; k++) {
            BigInteger across = part(x, k, 0).multiply(part(x, 0, 1));
            BigInteger other = part(x, 0, 0).multiply(part(x, k, 1));
            want += across.compareTo(other) >= 0 ? 1 : 0;
            wrapped += across.longValue() >= other.longValue() ? 1 : 0;
        }
        Edge.check.holds("it makes a difference", want != wrapped);
        due("go(0, 1)", x.go(0, 1), want);
    }

    private static BigInteger part(RoundRows x, int k, int part) {
        return BigInteger.valueOf(x.together(0, 1, k, part));
    }

    static void promise12AskingChangesNothing() {
        Edge.onlyAsks("go(0, 1)", x -> x.go(0, 1));
    }

    /** A round of two over all YEARS: by every k they go together, or against each other. */
    static void promise12AllKOfARound() {
        RoundRows x = new RoundRows();
        for (int year = 0; year < 24; year++) {
            x.year(0, year, year % 2);
            x.year(1, year, year % 4);
        }
        due("of two", x.go(0, 0), 24);
        // Of four: by 0, 4, 8, 12, 16 and 20.
        due("of four", x.go(1, 1), 6);
    }

    /** What YEAR 23 has is met by YEAR 0 at k 1: the last k, 23, brings YEAR 0 to 23. */
    static void promise12TurnsGoRound() {
        RoundRows x = new RoundRows();
        x.year(0, 23, 1);
        x.year(0, 0, 2);
        x.year(0, 1, 5);
        // By 0 all three: 1 by 1; by 1 and 23 two in common: 1 by 1, too; by others one or none: 0 by 1.
        due("over the end", x.go(0, 0), 3);
    }

    static void promise12RowsTooSmallOrTooLarge() {
        Edge.refused("a -1", x -> x.go(-1, 0), Edge.UNKNOWN);
        Edge.refused("a 6", x -> x.go(6, 0), Edge.UNKNOWN);
        Edge.refused("b -1", x -> x.go(0, -1), Edge.UNKNOWN);
        Edge.refused("b 6", x -> x.go(0, 6), Edge.UNKNOWN);
    }

    static void promise12AFaultIsNo() {
        Edge.refused("a fault", Edge::faulty, x -> x.go(0, 1), Edge.NO);
        Edge.refused("a fault, none", Edge::faulty, x -> x.go(2, 3), Edge.NO);
    }

    static void promise12UnknownGoesAheadOfNo() {
        Edge.refused("a, fault", Edge::faulty, x -> x.go(6, 0), Edge.UNKNOWN);
        Edge.refused("b, fault", Edge::faulty, x -> x.go(0, -1), Edge.UNKNOWN);
    }

    static void promise12FarNumbers() {
        for (int far : Edge.FAR) {
            Edge.refused("a " + far, x -> x.go(far, 0), Edge.UNKNOWN);
            Edge.refused("b " + far, x -> x.go(0, far), Edge.UNKNOWN);
        }
    }

    // ---- Promise 13: "WAVES. OUTSIDE: n 3 to 12, m 1 to 5."

    private static void waves(int n, int m, long upper, long lower) {
        RoundRows x = new RoundRows();
        due("waves(" + n + ", " + m + ", 0)", x.waves(n, m, 0), upper);
        due("waves(" + n + ", " + m + ", 1)", x.waves(n, m, 1), lower);
    }

    /** Three numbers: -1 1 -1 alone of 8 rows. */
    static void promise13Shortest() {
        waves(3, 1, 1, 8);
    }

    /** Ten YEARS have both beside them, each is above them in an eighth of all rows. */
    static void promise13Longest() {
        waves(12, 1, 5, 4);
    }

    /** Over 2 and more a top needs four signs: each YEAR that can be one is it in a sixteenth of all rows. */
    static void promise13MostSmoothing() {
        waves(12, 2, 9, 16);
        waves(12, 4, 7, 16);
        waves(12, 5, 3, 8);
    }

    /** "all three there": two fewer than that are left, or none. */
    static void promise13TooFewLeftIs0By1() {
        waves(3, 2, 0, 1);
        waves(3, 3, 0, 1);
        waves(3, 4, 0, 1);
        waves(3, 5, 0, 1);
        waves(4, 3, 0, 1);
        waves(4, 5, 0, 1);
        waves(5, 5, 0, 1);
        waves(6, 5, 0, 1);
    }

    static void promise13JustThreeLeft() {
        waves(4, 2, 1, 16);
        waves(5, 3, 1, 16);
        waves(6, 4, 1, 16);
        waves(7, 5, 1, 16);
    }

    static void promise13AskingChangesNothing() {
        Edge.onlyAsks("waves(12, 1, 0)", x -> x.waves(12, 1, 0));
    }

    static void promise13NTooSmallOrTooLarge() {
        Edge.refused("n 2", x -> x.waves(2, 1, 0), LOST - 2);
        Edge.refused("n 0", x -> x.waves(0, 1, 0), LOST - 2);
        Edge.refused("n -3", x -> x.waves(-3, 1, 0), LOST - 2);
        Edge.refused("n 13", x -> x.waves(13, 1, 0), LOST - 2);
    }

    /** A shift by 32 and 3 is one by 3. */
    static void promise13NDoesNotWrapRound() {
        Edge.refused("n 35", x -> x.waves(35, 1, 0), LOST - 2);
        Edge.refused("n 67", x -> x.waves(67, 1, 0), LOST - 2);
    }

    static void promise13MTooSmallOrTooLarge() {
        Edge.refused("m 0", x -> x.waves(3, 0, 0), LOST - 2);
        Edge.refused("m -1", x -> x.waves(3, -1, 0), LOST - 2);
        Edge.refused("m 6", x -> x.waves(12, 6, 0), LOST - 2);
        Edge.refused("m 33", x -> x.waves(12, 33, 0), LOST - 2);
    }

    static void promise13PartTooSmallOrTooLarge() {
        Edge.refused("part -1", x -> x.waves(3, 1, -1), LOST - 2);
        Edge.refused("part 2", x -> x.waves(3, 1, 2), LOST - 2);
    }

    /** It has no NO: the pad and the rows are nothing to it. */
    static void promise13AFaultIsNothingToIt() {
        due("with a fault", Edge.faulty().waves(3, 1, 1), 8);
        due("with rows", Edge.used().waves(3, 1, 0), 1);
        Edge.refused("n, fault", Edge::faulty, x -> x.waves(2, 1, 0), LOST - 2);
    }

    static void promise13FarNumbers() {
        for (int far : Edge.FAR) {
            Edge.refused("n " + far, x -> x.waves(far, 1, 0), LOST - 2);
            Edge.refused("m " + far, x -> x.waves(3, far, 0), LOST - 2);
            Edge.refused("part " + far, x -> x.waves(3, 1, far), LOST - 2);
        }
    }
}
