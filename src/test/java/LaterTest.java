/** Promises 14 and 15: found, luck. */
public final class LaterTest {
    private static final int GAP = RoundRows.GAP;
    private static final long LOST = RoundRows.LOST;
    private static final Check check = new Check("LaterTest");

    public static void main(String[] args) {
        foundLengths();
        heldOrNot();
        alikeOnes();
        heapsWithoutNumbers();
        noTraceOfLongerRows();
        lucks();
        refused();
        check.end();
    }

    private static void found(RoundRows x, int y, int length, int held, int counted) {
        check.due("found(0, " + y + ", 0)", x.found(0, y, 0), length);
        check.due("found(0, " + y + ", 1)", x.found(0, y, 1), held);
        check.due("found(0, " + y + ", 2)", x.found(0, y, 2), counted);
    }

    private static void luck(RoundRows x, int y, long upper, long lower) {
        check.due("luck(0, " + y + ", 0)", x.luck(0, y, 0), upper);
        check.due("luck(0, " + y + ", 1)", x.luck(0, y, 1), lower);
    }

    private static void foundLengths() {
        RoundRows x = new RoundRows();
        found(x, 4, 2, 0, 0);
        found(x, 22, 2, 0, 0);
        luck(x, 22, 1, 1);
        for (int length = 2; length <= 12; length++) {
            for (int year = 0; year < 24; year++) {
                x.year(0, year, year % length == 0 ? 9 : year % length);
            }
            // All in it: the first length with a share of 1.
            check.due("round of " + length, x.found(0, 22, 0), length);
        }
        // Only years ahead of y tell: behind it there is another round.
        Check.put(x, 0, 1, 5, 1, 5, 1, 5, 1, 5, 8, 9, 7, 8, 9, 7);
        check.due("ahead of 8", x.found(0, 8, 0), 2);
        // Years that are all alike: all lengths have 0 by 1, the first is found.
        Check.put(x, 0, 3, 3, 3, 3, 3, 3, 3, 3);
        check.due("flat", x.found(0, 8, 0), 2);
    }

    private static void heldOrNot() {
        RoundRows x = new RoundRows();
        Check.put(x, 0, 1, 5, 1, 5, 2, 4, 4, 2, 2, 9, GAP, 9);
        // Mean 3, by 2: low in even years, high in odd ones; 2 yes, 4 yes; 4 no, 2 no; 2 yes, 9 yes, 9 yes.
        found(x, 4, 2, 5, 7);
        luck(x, 4, 29, 128);
        Check.pad(x, "t04");
        // -2 yes, -4 no, -4 yes, -2 no, -2 yes, -9 no, -9 no.
        found(x, 4, 2, 3, 7);
        luck(x, 4, 99, 128);
        Check.pad(x, "c0009");
        found(x, 4, 2, 4, 6);
        luck(x, 4, 11, 32);
    }

    private static void alikeOnes() {
        RoundRows x = new RoundRows();
        // Mean 3: a later 3 is alike.
        Check.put(x, 0, 1, 5, 1, 5, 3, 3, 1, 3);
        found(x, 4, 2, 1, 1);
        luck(x, 4, 1, 2);
        // By 3: means 1, 3, 5 ahead of year 6, mean of all 3: later years of the second heap are alike.
        Check.put(x, 0, 1, 3, 5, 1, 3, 5, 1, 9, 9, 9, 1, 1);
        found(x, 6, 3, 2, 4);
        luck(x, 6, 11, 16);
        // All ahead alike: none counts.
        Check.put(x, 0, 3, 3, 3, 3, 4, 5, 1, 3);
        x.year(0, 8, GAP);
        found(x, 4, 2, 0, 4 - 4);
    }

    private static void heapsWithoutNumbers() {
        RoundRows x = new RoundRows();
        // Ahead of 4 years 0 and 2 alone: by 3 each alone (by 2 they are together), heap 1 is empty.
        Check.put(x, 0, 1, GAP, 5, GAP, 9, 9, 0);
        found(x, 4, 3, 2, 2);
        luck(x, 4, 1, 4);
        // Nothing ahead: nothing is held.
        RoundRows y = new RoundRows();
        Check.put(y, 0, GAP, GAP, GAP, GAP, 9, 8, 7);
        found(y, 4, 2, 0, 0);
        luck(y, 4, 1, 1);
    }

    private static void noTraceOfLongerRows() {
        RoundRows x = new RoundRows();
        Check.put(x, 0, 1, GAP, 5, GAP, 9, 9, 0);
        for (int year = 0; year < 24; year++) {
            x.year(1, year, year % 2 == 0 ? -99 : 99);
        }
        for (int y = 4; y <= 22; y++) {
            x.found(1, y, 1);
            found(x, 4, 3, 2, 2);
        }
    }

    private static void lucks() {
        RoundRows x = new RoundRows();
        for (int year = 0; year < 24; year++) {
            x.year(0, year, year % 2);
        }
        found(x, 4, 2, 20, 20);
        luck(x, 4, 1, 1048576);
        found(x, 22, 2, 2, 2);
        luck(x, 22, 1, 4);
        x.year(0, 23, 0);
        found(x, 22, 2, 1, 2);
        luck(x, 22, 3, 4);
        luck(x, 4, 21, 1048576);
        x.year(0, 22, 1);
        found(x, 22, 2, 0, 2);
        luck(x, 22, 1, 1);
        luck(x, 4, 211, 1048576);
    }

    private static void refused() {
        RoundRows x = new RoundRows();
        check.due("row", x.found(6, 4, 0), -1);
        check.due("row -1", x.found(-1, 3, 3), -1);
        check.due("y 3", x.found(0, 3, 0), -2);
        check.due("y 23", x.found(0, 23, 0), -2);
        check.due("what 3", x.found(0, 4, 3), -2);
        check.due("what -1", x.found(0, 4, -1), -2);
        check.due("luck row", x.luck(6, 4, 0), LOST - 1);
        check.due("luck y 3", x.luck(0, 3, 0), LOST - 2);
        check.due("luck y 23", x.luck(0, 23, 0), LOST - 2);
        check.due("luck part", x.luck(0, 4, 2), LOST - 2);
        check.due("luck part -1", x.luck(0, 4, -1), LOST - 2);
        Check.pad(x, "ss");
        check.due("fault", x.found(0, 4, 0), -5);
        check.due("outside, fault", x.found(0, 3, 0), -2);
        check.due("luck fault", x.luck(0, 4, 0), LOST - 5);
        check.due("luck outside, fault", x.luck(0, 3, 0), LOST - 2);
    }
}
