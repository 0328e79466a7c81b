/** Promises 14 and 15, edge by edge: found, luck. */
final class LaterEdges {
    private static final int GAP = Edge.GAP;
    private static final long LOST = Edge.LOST;

    private LaterEdges() { }

    private static void due(String call, long got, long want) {
        Edge.due(call, got, want);
    }

    private static RoundRows with(int... numbers) {
        RoundRows x = new RoundRows();
        Check.put(x, 0, numbers);
        return x;
    }

    private static void length(RoundRows x, int y, int want) {
        due("found(0, " + y + ", 0)", x.found(0, y, 0), want);
    }

    private static void held(RoundRows x, int y, int held, int counted) {
        due("found(0, " + y + ", 1)", x.found(0, y, 1), held);
        due("found(0, " + y + ", 2)", x.found(0, y, 2), counted);
    }

    private static void luck(RoundRows x, int y, long upper, long lower) {
        due("luck(0, " + y + ", 0)", x.luck(0, y, 0), upper);
        due("luck(0, " + y + ", 1)", x.luck(0, y, 1), lower);
    }

    /** A number by YEAR, all 24 of them: 0 in even ones, 1 in odd ones. */
    private static RoundRows evenAndOdd() {
        RoundRows x = new RoundRows();
        for (int year = 0; year < 24; year++) {
            x.year(0, year, year % 2);
        }
        return x;
    }

    // ---- Promise 14: "FOUND ahead of YEAR y (what = 0), HELD: how many (1), of how many (2). UNKNOWN; OUTSIDE; NO: a FAULT."

    /** All SHARES are 0 by 1: "the first such" is 2. */
    static void promise14WithoutNumbers() {
        RoundRows x = new RoundRows();
        for (int y = 4; y <= 22; y++) {
            length(x, y, 2);
            held(x, y, 0, 0);
        }
    }

    static void promise14NothingAheadOfY() {
        RoundRows x = with(GAP, GAP, GAP, GAP, 1, 5, 1, 5);
        length(x, 4, 2);
        held(x, 4, 0, 0);
    }

    static void promise14OneNumberAheadOfY() {
        RoundRows x = with(3, GAP, GAP, GAP, 1, 5, 1, 5);
        length(x, 4, 2);
        held(x, 4, 0, 0);
    }

    static void promise14LikeNumbersAheadOfY() {
        RoundRows x = with(3, 3, 3, 3, 1, 5, 1, 5);
        length(x, 4, 2);
        held(x, 4, 0, 0);
    }

    /** "the first such": by 2, 4, 6 .. all of it goes in a round. */
    static void promise14TheFirstOfTheGreatest() {
        length(with(1, 5, 1, 5), 4, 2);
        length(with(1, 5, 2, 1, 5, 2, 1, 5, 2), 9, 3);
    }

    static void promise14TheLongestLength() {
        RoundRows x = new RoundRows();
        for (int year = 0; year < 24; year++) {
            x.year(0, year, year % 12 == 11 ? 50 : 1);
        }
        length(x, 22, 12);
        // Ahead of YEAR 11 they are all alike.
        length(x, 11, 2);
        // By 2 to 11 it has others with it. 50 is above; in YEARS 12 and on the ones are below, YEAR 23 is above.
        length(x, 12, 12);
        held(x, 12, 12, 12);
    }

    /** "CUT to YEARS ahead of y": the YEAR just ahead of it is among them. */
    static void promise14TheYearJustAheadOfYIsAhead() {
        // 1 5 1 9: all by 4 alone; without the 9, by 2.
        length(with(1, 5, 1, 9), 4, 4);
        length(with(1, 5, 1, GAP), 4, 2);
    }

    static void promise14YearYIsNotAheadOfIt() {
        RoundRows x = with(1, 5, 1, 5, 9);
        length(x, 4, 2);
        length(x, 5, 5);
    }

    /** "of YEARS from y on": y itself is one of them. */
    static void promise14YearYIsALaterOne() {
        held(with(1, 5, 1, 5, 1), 4, 1, 1);
        held(with(1, 5, 1, 5, 5), 4, 0, 1);
        held(with(1, 5, 1, 5), 4, 0, 0);
    }

    static void promise14TheLastYearIsALaterOne() {
        RoundRows x = with(1, 5, 1, 5);
        x.year(0, 23, 5);
        held(x, 4, 1, 1);
        held(x, 22, 1, 1);
        x.year(0, 23, 1);
        held(x, 22, 0, 1);
    }

    static void promise14LeastY() {
        RoundRows x = evenAndOdd();
        length(x, 4, 2);
        held(x, 4, 20, 20);
    }

    static void promise14GreatestY() {
        RoundRows x = evenAndOdd();
        length(x, 22, 2);
        held(x, 22, 2, 2);
    }

    /** "YEARS .. that have numbers" */
    static void promise14LaterYearsWithoutNumbersDoNotCount() {
        held(with(1, 5, 1, 5, GAP, 5, GAP, GAP, 1), 4, 2, 2);
    }

    /** "whose heap by that length has numbers ahead of y" */
    static void promise14HeapsWithoutNumbersDoNotCount() {
        // YEARS 0 and 2 ahead: by 2 together, by 3 each alone, none in the heap of YEARS 4 and 7.
        RoundRows x = with(1, GAP, 5, GAP, 9, 9, 0, 9);
        length(x, 4, 3);
        held(x, 4, 2, 2);
    }

    /** "both above, or both below": above and below is counted, but not held. */
    static void promise14BothAboveOrBothBelow() {
        RoundRows x = with(1, 5, 1, 5);
        int[] numbers = {1, 5, 5, 1};
        for (int i = 0; i < 4; i++) {
            x.year(0, 4 + i, numbers[i]);
        }
        // 1 below as its heap, 5 above as its heap; 5 above, 1 below where their heaps are not.
        held(x, 4, 2, 4);
    }

    /** "alike ones do not count at all": a number that is just the mean of all ahead. */
    static void promise14ANumberAlikeTheMean() {
        held(with(1, 5, 1, 5, 3, 3), 4, 0, 0);
        held(with(1, 5, 1, 5, 2, 4), 4, 2, 2);
    }

    /** "alike ones do not count at all": a heap whose mean is just the mean of all ahead. */
    static void promise14AHeapAlikeTheMean() {
        // By 3 heaps of 1, 3 and 5; the mean is 3.
        RoundRows x = with(1, 3, 5, 1, 3, 5, GAP, 9, GAP, GAP, 1);
        length(x, 6, 3);
        held(x, 6, 0, 0);
        x.year(0, 6, 1);
        held(x, 6, 1, 1);
    }

    static void promise14BothAlikeTheMean() {
        RoundRows x = with(1, 3, 5, 1, 3, 5, GAP, 3);
        length(x, 6, 3);
        held(x, 6, 0, 0);
    }

    /** Means are held against each other as they are, not cut: 7 by 3 is above 2. */
    static void promise14MeansAreNotCut() {
        RoundRows x = with(1, 2, 4, GAP, GAP, 2, 2, 2, 3);
        length(x, 4, 3);
        // By 3: YEAR 5 with the 4: 2 is below: not; 6 with the 1: yes; 7 with the 2: yes; 8 with the 4: yes.
        held(x, 4, 3, 4);
        Check.pad(x, "t00");
        length(x, 4, 3);
        held(x, 4, 3, 4);
    }

    /** The mean of a heap is that of its numbers ahead of y alone. */
    static void promise14LaterNumbersAreNotInTheHeap() {
        RoundRows x = with(1, 5, 1, 5, 99, -99, 99, -99, 99, -99);
        length(x, 4, 2);
        held(x, 4, 0, 6);
    }

    /** It is the DEALT ROW that is looked at, its later YEARS, too. */
    static void promise14BehindADealing() {
        RoundRows x = evenAndOdd();
        Check.pad(x, "t04");
        // 0 stays below a half, -1 is not above.
        held(x, 4, 10, 20);
        Check.pad(x, "c0021");
        held(x, 4, 18, 18);
        held(x, 22, 0, 0);
        Check.pad(x, "c0423");
        held(x, 4, 0, 0);
    }

    static void promise14AskingChangesNothing() {
        Edge.onlyAsks("found(0, 4, 0)", x -> x.found(0, 4, 0));
        Edge.onlyAsks("found(0, 4, 1)", x -> x.found(0, 4, 1));
        Edge.onlyAsks("found(0, 4, 2)", x -> x.found(0, 4, 2));
    }

    static void promise14YTooSmallOrTooLarge() {
        Edge.refused("y 3", x -> x.found(0, 3, 0), Edge.OUTSIDE);
        Edge.refused("y 0", x -> x.found(0, 0, 0), Edge.OUTSIDE);
        Edge.refused("y 23", x -> x.found(0, 23, 0), Edge.OUTSIDE);
        Edge.refused("y 24", x -> x.found(0, 24, 1), Edge.OUTSIDE);
    }

    static void promise14WhatTooSmallOrTooLarge() {
        Edge.refused("what -1", x -> x.found(0, 4, -1), Edge.OUTSIDE);
        Edge.refused("what 3", x -> x.found(0, 4, 3), Edge.OUTSIDE);
    }

    static void promise14RowTooSmallOrTooLarge() {
        Edge.refused("row -1", x -> x.found(-1, 4, 0), Edge.UNKNOWN);
        Edge.refused("row 6", x -> x.found(6, 4, 0), Edge.UNKNOWN);
        due("row 5", Edge.used().found(5, 4, 0), 2);
    }

    static void promise14AFaultIsNo() {
        for (int what = 0; what < 3; what++) {
            int asked = what;
            Edge.refused("a fault, " + what, Edge::faulty, x -> x.found(0, 4, asked), Edge.NO);
        }
    }

    static void promise14TheFirstRefusalThatFits() {
        Edge.refused("row, all", Edge::faulty, x -> x.found(6, 3, 3), Edge.UNKNOWN);
        Edge.refused("y, fault", Edge::faulty, x -> x.found(0, 23, 0), Edge.OUTSIDE);
        Edge.refused("what, fault", Edge::faulty, x -> x.found(0, 4, 3), Edge.OUTSIDE);
    }

    static void promise14FarNumbers() {
        for (int far : Edge.FAR) {
            Edge.refused("row " + far, x -> x.found(far, 4, 0), Edge.UNKNOWN);
            Edge.refused("y " + far, x -> x.found(0, far, 0), Edge.OUTSIDE);
            Edge.refused("what " + far, x -> x.found(0, 4, far), Edge.OUTSIDE);
        }
    }

    // ---- Promise 15: "LUCK. UNKNOWN, OUTSIDE, NO. (1 by 1 of none.)"

    static void promise15OfNoneItIs1By1() {
        luck(new RoundRows(), 4, 1, 1);
        luck(new RoundRows(), 22, 1, 1);
        luck(with(1, 5, 1, 5), 4, 1, 1);
        luck(with(3, 3, 3, 3, 1, 2), 4, 1, 1);
        luck(with(1, 5, 1, 5, 3, 3), 4, 1, 1);
    }

    /** "of as many or more": none held is as many always. */
    static void promise15NoneHeldIs1By1() {
        luck(with(1, 5, 1, 5, 5), 4, 1, 1);
        luck(with(1, 5, 1, 5, 5, 1), 4, 1, 1);
    }

    static void promise15OneHeldOfOne() {
        luck(with(1, 5, 1, 5, 1), 4, 1, 2);
    }

    static void promise15OneHeldOfTwo() {
        luck(with(1, 5, 1, 5, 1, 1), 4, 3, 4);
    }

    static void promise15BothHeldOfTwo() {
        luck(evenAndOdd(), 22, 1, 4);
    }

    /** Twenty later YEARS are the most that there can be. */
    static void promise15AllHeldOfTwenty() {
        luck(evenAndOdd(), 4, 1, 1048576);
    }

    /** 1 and 20 ways; and 1, 20 and 190. */
    static void promise15AllButOneOfTwenty() {
        RoundRows x = evenAndOdd();
        x.year(0, 23, 0);
        luck(x, 4, 21, 1048576);
        x.year(0, 4, 1);
        luck(x, 4, 211, 1048576);
    }

    static void promise15NoneHeldOfTwenty() {
        RoundRows x = evenAndOdd();
        for (int year = 4; year < 24; year++) {
            x.year(0, year, 1 - year % 2);
        }
        held(x, 4, 0, 20);
        luck(x, 4, 1, 1);
        // One of them: all ways but one.
        x.year(0, 4, 0);
        luck(x, 4, 1048575, 1048576);
    }

    static void promise15AskingChangesNothing() {
        Edge.onlyAsks("luck(0, 4, 1)", x -> x.luck(0, 4, 1));
    }

    static void promise15YTooSmallOrTooLarge() {
        Edge.refused("y 3", x -> x.luck(0, 3, 0), LOST - 2);
        Edge.refused("y 23", x -> x.luck(0, 23, 0), LOST - 2);
    }

    static void promise15PartTooSmallOrTooLarge() {
        Edge.refused("part -1", x -> x.luck(0, 4, -1), LOST - 2);
        Edge.refused("part 2", x -> x.luck(0, 4, 2), LOST - 2);
    }

    static void promise15RowTooSmallOrTooLarge() {
        Edge.refused("row -1", x -> x.luck(-1, 4, 0), LOST - 1);
        Edge.refused("row 6", x -> x.luck(6, 4, 0), LOST - 1);
        due("row 5", Edge.used().luck(5, 4, 1), 1);
    }

    static void promise15AFaultIsNo() {
        Edge.refused("a fault", Edge::faulty, x -> x.luck(0, 4, 0), LOST - 5);
        Edge.refused("a fault, none", Edge::faulty, x -> x.luck(3, 4, 1), LOST - 5);
    }

    static void promise15TheFirstRefusalThatFits() {
        Edge.refused("row, all", Edge::faulty, x -> x.luck(6, 3, 2), LOST - 1);
        Edge.refused("y, fault", Edge::faulty, x -> x.luck(0, 3, 0), LOST - 2);
        Edge.refused("part, fault", Edge::faulty, x -> x.luck(0, 4, 2), LOST - 2);
    }

    static void promise15FarNumbers() {
        for (int far : Edge.FAR) {
            Edge.refused("row " + far, x -> x.luck(far, 4, 0), LOST - 1);
            Edge.refused("y " + far, x -> x.luck(0, far, 0), LOST - 2);
            Edge.refused("part " + far, x -> x.luck(0, 4, far), LOST - 2);
        }
    }
}
