/** Promises 7 to 10: share, odds, tried, drawn. */
public final class RoundsTest {
    private static final int GAP = RoundRows.GAP;
    private static final long LOST = RoundRows.LOST;
    private static final Check check = new Check("RoundsTest");

    public static void main(String[] args) {
        shares();
        shareOfExtremes();
        shareRefused();
        odds();
        oddsRefused();
        tried();
        triedRefused();
        drawn();
        drawnRefused();
        check.end();
    }

    private static void share(RoundRows x, int row, int length, long upper, long lower) {
        check.due("share(" + row + ", " + length + ", 0)", x.share(row, length, 0), upper);
        check.due("share(" + row + ", " + length + ", 1)", x.share(row, length, 1), lower);
    }

    private static void shares() {
        RoundRows x = new RoundRows();
        share(x, 0, 2, 0, 1);
        Check.put(x, 0, 1, 2, 3);
        // (16 / 2 + 4 - 12) by (14 - 12)
        share(x, 0, 2, 0, 1);
        share(x, 0, 3, 1, 1);
        share(x, 0, 12, 1, 1);
        Check.put(x, 1, 1, 2, 3, 5);
        // (16 / 2 + 49 / 2 - 121 / 4) by (39 - 121 / 4) = 2.25 by 8.75
        share(x, 1, 2, 9, 35);
        // heaps 1 and 5, 2, 3: (36 / 2 + 4 + 9 - 121 / 4) by 8.75 = 0.75 by 8.75
        share(x, 1, 3, 3, 35);
        Check.put(x, 2, 4, 4, GAP, 4);
        share(x, 2, 2, 0, 1);
        Check.put(x, 3, GAP, 9);
        share(x, 3, 5, 0, 1);
        // By the year, not by the place among numbers: years 0, 3 and 4.
        Check.put(x, 4, 1, GAP, GAP, 2, 6);
        // L 2: 1 and 6, 2: (49 / 2 + 4 - 27) by (41 - 27) = 1.5 by 14
        share(x, 4, 2, 3, 28);
        // L 3: 1 and 2, 6: (9 / 2 + 36 - 27) by 14
        share(x, 4, 3, 27, 28);
        Check.pad(x, "d");
        // 1, 1, 2 in years 1 to 3: L 2: 3 / 1, 1: (9 / 2 + 1 - 16 / 3) by (6 - 16 / 3)
        share(x, 1, 2, 1, 4);
        check.due("the pad stays", x.told(0), 1);
    }

    /** Long numbers: all years, both ends, by the thing itself in long whole numbers. */
    private static void shareOfExtremes() {
        RoundRows x = new RoundRows();
        for (int year = 0; year < 24; year++) {
            x.year(0, year, year % 2 == 0 ? 99 : -99);
        }
        Check.pad(x, "dddd");
        // From year 4 on 999 and -999 by turns.
        share(x, 0, 2, 1, 1);
        share(x, 0, 12, 1, 1);
        // L 3: 20 numbers; heaps of 7 (years 4, 7 ..: +-+-+-+), 7 and 6 (0): 2 / 7 by 20.
        share(x, 0, 3, 1, 70);
        // L 5: four of each: 0.
        share(x, 0, 5, 0, 1);
        // L 9: years 4 .. 8 and 13 .. : of nine heaps 2 (0) or 3 numbers (4 + 18 = 22, 5 + 18 = 23): 2 / 3 by 20.
        share(x, 0, 9, 1, 15 * 2);
    }

    private static void shareRefused() {
        RoundRows x = new RoundRows();
        check.due("row", x.share(6, 2, 0), LOST - 1);
        check.due("row -1", x.share(-1, 99, 9), LOST - 1);
        check.due("length 1", x.share(0, 1, 0), LOST - 2);
        check.due("length 0", x.share(0, 0, 0), LOST - 2);
        check.due("length 13", x.share(0, 13, 0), LOST - 2);
        check.due("part 2", x.share(0, 2, 2), LOST - 2);
        check.due("part -1", x.share(0, 2, -1), LOST - 2);
        Check.pad(x, "l");
        check.due("fault", x.share(0, 2, 0), LOST - 5);
        check.due("outside, fault", x.share(0, 13, 0), LOST - 2);
    }

    private static void odds(RoundRows x, int length, long upper, long lower) {
        check.due("odds(0, " + length + ", 0)", x.odds(0, length, 0), upper);
        check.due("odds(0, " + length + ", 1)", x.odds(0, length, 1), lower);
    }

    private static void odds() {
        RoundRows x = new RoundRows();
        x.year(0, 7, 3);
        odds(x, 2, 1, 1);
        x.year(0, 7, GAP);
        Check.put(x, 0, 1, 2, 10);
        // L 2: the one that is alone: 2 is nearest to the mean; all orders are as much or more.
        odds(x, 2, 1, 1);
        Check.put(x, 0, 1, 10, 2);
        odds(x, 2, 1, 3);
        Check.put(x, 0, 10, 2, 1);
        // Alone: 2 (least), 1, 10 (greatest).
        odds(x, 2, 1, 1);
        Check.put(x, 0, 10, 1, 2);
        odds(x, 2, 2, 3);
        odds(x, 3, 1, 1);
        Check.put(x, 0, 5, 5, 5);
        odds(x, 2, 1, 1);
        Check.put(x, 0, 1, 2, 3, 4, 5, 6, 7);
        // L 2: 1 3 5 7 and 2 4 6: means are alike, nothing is less.
        odds(x, 2, 1, 1);
        Check.put(x, 0, 4, 1, 5, 2, 6, 3, 7);
        // The one best way to heap four and three, and its mirror 1 2 3 4, 5 6 7.
        odds(x, 2, 2, 35);
        check.due("seven are taken", x.odds(0, 7, 0), 1);
        x.year(0, 20, 1);
        Check.pad(x, "c0006");
        odds(x, 2, 2, 35);
    }

    private static void oddsRefused() {
        RoundRows x = new RoundRows();
        check.due("row", x.odds(6, 2, 0), LOST - 1);
        check.due("length 1", x.odds(0, 1, 0), LOST - 2);
        check.due("length 13", x.odds(0, 13, 0), LOST - 2);
        check.due("part", x.odds(0, 2, 2), LOST - 2);
        check.due("none", x.odds(0, 2, 0), LOST - 3);
        Check.put(x, 0, 1, 2, 3, 4, 5, 6, 7, 8);
        check.due("eight", x.odds(0, 2, 1), LOST - 3);
        Check.pad(x, "d");
        check.due("seven behind a dealing", x.odds(0, 2, 0), 1);
        Check.pad(x, "c2323");
        check.due("none behind a dealing", x.odds(0, 2, 0), LOST - 3);
        Check.pad(x, "c");
        check.due("a fault ahead of state", x.odds(0, 2, 0), LOST - 5);
        check.due("outside ahead of a fault", x.odds(0, 2, -1), LOST - 2);
    }

    private static void tried(RoundRows x, int from, int to, long upper, long lower) {
        check.due("tried(0, " + from + ", " + to + ", 0)", x.tried(0, from, to, 0), upper);
        check.due("tried(0, " + from + ", " + to + ", 1)", x.tried(0, from, to, 1), lower);
    }

    private static void tried() {
        RoundRows x = new RoundRows();
        Check.put(x, 0, 1, -1, 1, -1, 1, -1);
        tried(x, 2, 2, 1, 10);
        tried(x, 3, 3, 1, 1);
        // 2 or 3: heaps of L 2 are all alike in 2 of 20 orders; those of L 3 can be in 0 (pairs, three of each).
        tried(x, 2, 3, 1, 10);
        // L 4, years 0 and 4, 1 and 5 alike: 4 orders, those of L 2 among them. L 5, 0 and 5 alike: 8 others.
        tried(x, 2, 5, 3, 5);
        tried(x, 3, 4, 1, 5);
        tried(x, 2, 6, 1, 1);
        tried(x, 2, 12, 1, 1);
        tried(x, 12, 12, 1, 1);
        Check.put(x, 0, 4, 1, 5, 2, 6, 3, 7);
        check.due("odds are tried of one", x.tried(0, 2, 2, 1), x.odds(0, 2, 1));
        Check.put(x, 0, 5, 5, 5, 5, 5, 5, 5);
        tried(x, 2, 6, 1, 1);
    }

    private static void triedRefused() {
        RoundRows x = new RoundRows();
        check.due("row", x.tried(-1, 2, 3, 0), LOST - 1);
        check.due("from 1", x.tried(0, 1, 3, 0), LOST - 2);
        check.due("to 13", x.tried(0, 2, 13, 0), LOST - 2);
        check.due("from above to", x.tried(0, 5, 4, 0), LOST - 2);
        check.due("both below", x.tried(0, 0, 1, 0), LOST - 2);
        check.due("part", x.tried(0, 2, 3, 2), LOST - 2);
        check.due("none", x.tried(0, 2, 3, 0), LOST - 3);
        Check.put(x, 0, 1, 2, 3, 4, 5, 6, 7, 8);
        check.due("eight", x.tried(0, 2, 3, 0), LOST - 3);
        Check.pad(x, "x");
        check.due("fault", x.tried(0, 2, 3, 0), LOST - 5);
        check.due("outside, fault", x.tried(0, 3, 2, 0), LOST - 2);
    }

    private static void drawn() {
        RoundRows x = new RoundRows();
        check.due("of no numbers", x.drawn(0, 2, 100, 1), 100);
        Check.put(x, 0, 5, 5, 5);
        check.due("of like numbers", x.drawn(0, 2, 7, 1000000), 7);
        Check.put(x, 0, 1, 10, 2);
        // Seed 1: 16807 by 3 leaves 1, then 282475249 by 2 leaves 1: 1 2 10: the 10 not alone.
        check.due("first order", x.drawn(0, 2, 1, 1), 0);
        // 1622650073 by 3 leaves 2, 984943658 by 2 leaves 0: 2 1 10.
        check.due("second order", x.drawn(0, 2, 2, 1), 0);
        // 1144108930 by 3 leaves 1: 2 10 1; 470211272 by 2 leaves 0: 10 2 1.
        check.due("third order", x.drawn(0, 2, 3, 1), 0);
        // 101027544 by 3 leaves 0: 1 2 10; 1457850878 by 2 leaves 0: 2 1 10.
        check.due("fourth order", x.drawn(0, 2, 4, 1), 0);
        // 1458777923 by 3 leaves 2: 2 1 10; 2007237709 by 2 leaves 1: 2 1 10.
        check.due("fifth order", x.drawn(0, 2, 5, 1), 0);
        // 823564440 by 3 leaves 0: 10 1 2; 1115438165 by 2 leaves 1: 10 1 2.
        check.due("sixth order", x.drawn(0, 2, 6, 1), 0);
        // 1784484492 by 3 leaves 0: 2 1 10; 74243042 by 2 leaves 0: 1 2 10.
        check.due("seventh order", x.drawn(0, 2, 7, 1), 0);
        // 114807987 by 3 leaves 0: 10 2 1; 1137522503 by 2 leaves 1: 10 2 1.
        check.due("eighth order", x.drawn(0, 2, 8, 1), 0);
        // 1441282327 by 3 leaves 1: 10 1 2; 16531729 by 2 leaves 1: 10 1 2.
        check.due("ninth order", x.drawn(0, 2, 9, 1), 0);
        // 823378840 by 3 leaves 1: 10 2 1; 143542612 by 2 leaves 0: 2 10 1.
        check.due("tenth order", x.drawn(0, 2, 10, 1), 1);
        check.due("the row stays", x.dealt(0, 1), 10);
        check.due("the same again", x.drawn(0, 2, 10, 1), 1);
        for (int year = 0; year < 24; year++) {
            x.year(1, year, year % 2);
        }
        check.due("all years have numbers", x.drawn(1, 2, 100, 1), 0);
        check.due("of a longer row no trace", x.drawn(0, 2, 10, 1), 1);
    }

    private static void drawnRefused() {
        RoundRows x = new RoundRows();
        check.due("row", x.drawn(6, 2, 1, 1), -1);
        check.due("length 1", x.drawn(0, 1, 1, 1), -2);
        check.due("length 13", x.drawn(0, 13, 1, 1), -2);
        check.due("n 0", x.drawn(0, 2, 0, 1), -2);
        check.due("n 101", x.drawn(0, 2, 101, 1), -2);
        check.due("seed 0", x.drawn(0, 2, 1, 0), -2);
        check.due("seed 1000001", x.drawn(0, 2, 1, 1000001), -2);
        Check.pad(x, "t2");
        check.due("fault", x.drawn(0, 2, 1, 1), -5);
        check.due("outside, fault", x.drawn(0, 2, 1, -1), -2);
        check.due("unknown, all", x.drawn(-1, 1, 0, 0), -1);
    }
}
