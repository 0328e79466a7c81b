/** Promises 7 to 10, edge by edge: share, odds, tried, drawn. */
final class RoundsEdges {
    private static final int GAP = Edge.GAP;
    private static final long LOST = Edge.LOST;

    private RoundsEdges() { }

    private static void due(String call, long got, long want) {
        Edge.due(call, got, want);
    }

    /** As used(), but row 0 has no more than seven numbers behind the pad. */
    private static RoundRows usedBySeven() {
        RoundRows x = Edge.used();
        due("seven behind s2", x.odds(0, 2, 1) > 0 ? 1 : 0, 1);
        return x;
    }

    /** As used(), but row 0 has eight numbers behind the pad. */
    private static RoundRows usedByEight() {
        RoundRows x = Edge.used();
        x.wipe();
        return x;
    }

    // ---- Promise 7: "SHARE of a ROW DEALT as the PAD tells. UNKNOWN, OUTSIDE, NO: a FAULT (LOST less 1, 2, 5)."

    private static void share(RoundRows x, int length, long upper, long lower) {
        due("share(0, " + length + ", 0)", x.share(0, length, 0), upper);
        due("share(0, " + length + ", 1)", x.share(0, length, 1), lower);
    }

    /** "0 by 1, if .. there are none" */
    static void promise7WithoutNumbersItIs0By1() {
        RoundRows x = new RoundRows();
        for (int length = 2; length <= 12; length++) {
            share(x, length, 0, 1);
        }
    }

    static void promise7AllCutAwayIs0By1() {
        RoundRows x = new RoundRows();
        Check.put(x, 0, 1, 2, 3);
        Check.pad(x, "c0323");
        share(x, 2, 0, 1);
    }

    /** "0 by 1, if the lower one is 0": one number, and numbers that are all alike. */
    static void promise7OneNumberIs0By1() {
        RoundRows x = new RoundRows();
        x.year(0, 23, -99);
        share(x, 2, 0, 1);
        share(x, 12, 0, 1);
    }

    static void promise7LikeNumbersAre0By1() {
        RoundRows x = new RoundRows();
        Check.put(x, 0, 7, 7, GAP, 7, 7);
        share(x, 2, 0, 1);
        share(x, 5, 0, 1);
        Check.put(x, 0, 0, 0, GAP, 0, 0);
        share(x, 2, 0, 1);
    }

    /** The upper one is 0, the lower one not: "in lowest terms", 0 by 1. */
    static void promise7NothingInARoundIs0By1() {
        RoundRows x = new RoundRows();
        Check.put(x, 0, 1, 2, 2, 1);
        share(x, 2, 0, 1);
    }

    static void promise7AllInARoundIs1By1() {
        RoundRows x = new RoundRows();
        Check.put(x, 0, 1, 5, 1, 5);
        share(x, 2, 1, 1);
        share(x, 4, 1, 1);
        share(x, 12, 1, 1);
    }

    /** Two numbers: 1 and 2; alone in heaps 1 by 1, together 0 by 1. */
    static void promise7TwoNumbers() {
        RoundRows x = new RoundRows();
        x.year(0, 0, 1);
        x.year(0, 12, 2);
        for (int length = 2; length <= 12; length++) {
            share(x, length, 12 % length == 0 ? 0 : 1, 1);
        }
    }

    /** Numbers below 0: sums are below 0, their squares are not. */
    static void promise7NumbersBelow0() {
        RoundRows x = new RoundRows();
        Check.put(x, 0, -1, -2, -3, -5);
        share(x, 2, 9, 35);
        Check.put(x, 0, -1, 1, -1, 1);
        share(x, 2, 1, 1);
        share(x, 3, 1, 2);
    }

    /** Heaps go round: the last YEAR by the longest length is with YEAR 11, YEAR 12 with YEAR 0. */
    static void promise7HeapsGoRound() {
        RoundRows x = new RoundRows();
        x.year(0, 0, 1);
        x.year(0, 12, 2);
        x.year(0, 1, 6);
        // 1 and 2, 6: (4.5 + 36 - 27) by (41 - 27)
        share(x, 12, 27, 28);
        // 1, 2 and 6: (1 + 32 - 27) by 14
        share(x, 11, 3, 7);
        RoundRows y = new RoundRows();
        y.year(0, 11, 1);
        y.year(0, 23, 2);
        y.year(0, 22, 6);
        share(y, 12, 27, 28);
        // 1 and 6, 2: (24.5 + 4 - 27) by 14
        share(y, 11, 3, 28);
    }

    /** All YEARS, ends of numbers, as they stand: heaps of 12 and of 2. */
    static void promise7AllYearsHaveNumbers() {
        RoundRows x = new RoundRows();
        for (int year = 0; year < 24; year++) {
            x.year(0, year, year < 12 ? 99 : -99);
        }
        share(x, 2, 0, 1);
        share(x, 12, 0, 1);
        // Of five heaps: 0, 5, 10 and 15, 20 .. : sums 99 (of 5), 99 (of 5: 1, 6, 11, 16, 21), -99 (of 5: 2, 7, 12,
        // 17, 22), -99 (of 5), 0 (of 4): 4 by 5, by 24.
        share(x, 5, 1, 30);
    }

    static void promise7AskingChangesNothing() {
        Edge.onlyAsks("share(0, 2, 0)", x -> x.share(0, 2, 0));
    }

    static void promise7LengthTooSmallOrTooLarge() {
        Edge.refused("length 1", x -> x.share(0, 1, 0), LOST - 2);
        Edge.refused("length 0", x -> x.share(0, 0, 0), LOST - 2);
        Edge.refused("length -2", x -> x.share(0, -2, 0), LOST - 2);
        Edge.refused("length 13", x -> x.share(0, 13, 0), LOST - 2);
    }

    static void promise7PartTooSmallOrTooLarge() {
        Edge.refused("part -1", x -> x.share(0, 2, -1), LOST - 2);
        Edge.refused("part 2", x -> x.share(0, 2, 2), LOST - 2);
    }

    static void promise7RowTooSmallOrTooLarge() {
        Edge.refused("row -1", x -> x.share(-1, 2, 0), LOST - 1);
        Edge.refused("row 6", x -> x.share(6, 2, 0), LOST - 1);
        due("row 5", Edge.used().share(5, 2, 1), 1);
    }

    static void promise7AFaultIsNo() {
        Edge.refused("a fault", Edge::faulty, x -> x.share(0, 2, 0), LOST - 5);
        Edge.refused("a fault, of none", Edge::faulty, x -> x.share(3, 2, 1), LOST - 5);
    }

    static void promise7TheFirstRefusalThatFits() {
        Edge.refused("row, length, fault", Edge::faulty, x -> x.share(6, 13, 2), LOST - 1);
        Edge.refused("length, fault", Edge::faulty, x -> x.share(0, 13, 0), LOST - 2);
        Edge.refused("part, fault", Edge::faulty, x -> x.share(0, 2, 2), LOST - 2);
    }

    static void promise7FarNumbers() {
        for (int far : Edge.FAR) {
            Edge.refused("row " + far, x -> x.share(far, 2, 0), LOST - 1);
            Edge.refused("length " + far, x -> x.share(0, far, 0), LOST - 2);
            Edge.refused("part " + far, x -> x.share(0, 2, far), LOST - 2);
        }
    }

    // ---- Promise 8: "ODDS of that. UNKNOWN, OUTSIDE, STATE: more than 7 numbers, or none, NO: a FAULT (ahead of STATE)."

    private static void odds(RoundRows x, int length, long upper, long lower) {
        due("odds(0, " + length + ", 0)", x.odds(0, length, 0), upper);
        due("odds(0, " + length + ", 1)", x.odds(0, length, 1), lower);
    }

    static void promise8OneNumberIs1By1() {
        RoundRows x = new RoundRows();
        x.year(0, 23, 5);
        odds(x, 2, 1, 1);
        odds(x, 12, 1, 1);
    }

    /** "7 of them at most": of 35 ways to heap four and three those with 4 5 6 7 and with 1 2 3 4 are the best. */
    static void promise8SevenNumbersAreTaken() {
        RoundRows x = new RoundRows();
        Check.put(x, 0, 4, 1, 5, 2, 6, 3, 7);
        odds(x, 2, 2, 35);
    }

    static void promise8EightNumbersAreState() {
        Edge.refused("eight, part 0", RoundsEdges::usedByEight, x -> x.odds(0, 2, 0), LOST - 3);
        Edge.refused("eight, part 1", RoundsEdges::usedByEight, x -> x.odds(0, 2, 1), LOST - 3);
    }

    static void promise8AllYearsAreState() {
        RoundRows x = new RoundRows();
        for (int year = 0; year < 24; year++) {
            x.year(0, year, year);
        }
        due("24 numbers", x.odds(0, 12, 0), LOST - 3);
    }

    static void promise8NoneIsState() {
        Edge.refused("none, part 0", x -> x.odds(3, 2, 0), LOST - 3);
        Edge.refused("none, part 1", x -> x.odds(3, 2, 1), LOST - 3);
    }

    /** It is the numbers of the DEALT ROW that count. */
    static void promise8NumbersBehindTheDealingCount() {
        RoundRows x = new RoundRows();
        Check.put(x, 0, 1, 2, 3, 4, 5, 6, 7, 8);
        Check.pad(x, "c0006");
        odds(x, 12, 1, 1);
        Check.pad(x, "c0007");
        odds(x, 12, LOST - 3, LOST - 3);
        Check.pad(x, "l9l9");
        // Years 18 to 23 have 1 to 6.
        odds(x, 12, 1, 1);
        Check.pad(x, "l9l9l6");
        odds(x, 12, LOST - 3, LOST - 3);
    }

    /** "as much, or more": all orders of like numbers are as much. */
    static void promise8AsMuchCounts() {
        RoundRows x = new RoundRows();
        Check.put(x, 0, 3, 3, 3, 3, 3, 3, 3);
        odds(x, 2, 1, 1);
        Check.put(x, 0, 1, -1, 1, -1, 1, -1, GAP);
        // Of 20 orders that look different two: ones in even years, or in odd ones.
        odds(x, 2, 1, 10);
    }

    /** Orders go over the YEARS that have numbers; a gap gets none. */
    static void promise8GapsStay() {
        RoundRows x = new RoundRows();
        Check.put(x, 0, 1, GAP, 2, 10);
        // By 2 the one in YEAR 3 is alone: 10 is best, one of three.
        odds(x, 2, 1, 3);
        // By 3 YEARS 0 and 3 are together, YEAR 2 alone: 2 is the least.
        odds(x, 3, 1, 1);
    }

    static void promise8AskingChangesNothing() {
        Edge.onlyAsks("odds(0, 2, 0)", x -> x.odds(0, 2, 0));
    }

    static void promise8LengthTooSmallOrTooLarge() {
        Edge.refused("length 1", RoundsEdges::usedBySeven, x -> x.odds(0, 1, 0), LOST - 2);
        Edge.refused("length 13", RoundsEdges::usedBySeven, x -> x.odds(0, 13, 0), LOST - 2);
    }

    static void promise8PartTooSmallOrTooLarge() {
        Edge.refused("part -1", RoundsEdges::usedBySeven, x -> x.odds(0, 2, -1), LOST - 2);
        Edge.refused("part 2", RoundsEdges::usedBySeven, x -> x.odds(0, 2, 2), LOST - 2);
    }

    static void promise8RowTooSmallOrTooLarge() {
        Edge.refused("row -1", x -> x.odds(-1, 2, 0), LOST - 1);
        Edge.refused("row 6", x -> x.odds(6, 2, 0), LOST - 1);
        due("row 5", Edge.used().odds(5, 2, 0), LOST - 3);
    }

    static void promise8AFaultIsNo() {
        Edge.refused("a fault", Edge::faulty, x -> x.odds(1, 2, 0), LOST - 5);
    }

    /** "NO: a FAULT (ahead of STATE)" */
    static void promise8AFaultGoesAheadOfState() {
        Edge.refused("a fault, none", Edge::faulty, x -> x.odds(3, 2, 0), LOST - 5);
        Edge.refused("a fault, eight", Edge::faulty, x -> x.odds(0, 2, 0), LOST - 5);
    }

    static void promise8TheFirstRefusalThatFits() {
        Edge.refused("row, all", Edge::faulty, x -> x.odds(6, 13, 2), LOST - 1);
        Edge.refused("length, fault", Edge::faulty, x -> x.odds(3, 13, 0), LOST - 2);
        Edge.refused("part, fault", Edge::faulty, x -> x.odds(3, 2, 2), LOST - 2);
        Edge.refused("length, none", x -> x.odds(3, 13, 0), LOST - 2);
        Edge.refused("part, eight", RoundsEdges::usedByEight, x -> x.odds(0, 2, -1), LOST - 2);
    }

    static void promise8FarNumbers() {
        for (int far : Edge.FAR) {
            Edge.refused("row " + far, x -> x.odds(far, 2, 0), LOST - 1);
            Edge.refused("length " + far, x -> x.odds(1, far, 0), LOST - 2);
            Edge.refused("part " + far, x -> x.odds(1, 2, far), LOST - 2);
        }
    }

    // ---- Promise 9: "TRIED from a length to one. UNKNOWN, OUTSIDE: from above to, too, STATE, NO, likewise."

    private static void tried(RoundRows x, int from, int to, long upper, long lower) {
        due("tried(0, " + from + ", " + to + ", 0)", x.tried(0, from, to, 0), upper);
        due("tried(0, " + from + ", " + to + ", 1)", x.tried(0, from, to, 1), lower);
    }

    private static RoundRows plusAndMinus() {
        RoundRows x = new RoundRows();
        Check.put(x, 0, 1, -1, 1, -1, 1, -1);
        return x;
    }

    /** From a length to the same one: the ODDS of it. */
    static void promise9OneLength() {
        RoundRows x = plusAndMinus();
        for (int length = 2; length <= 12; length++) {
            tried(x, length, length, x.odds(0, length, 0), x.odds(0, length, 1));
        }
        tried(x, 2, 2, 1, 10);
        tried(x, 4, 4, 1, 5);
    }

    /** Both ends are counted: 2 alone makes 1 by 10, 4 alone 1 by 5 with those of 2 among them. */
    static void promise9BothEndsAreCounted() {
        RoundRows x = plusAndMinus();
        tried(x, 2, 3, 1, 10);
        tried(x, 3, 4, 1, 5);
        tried(x, 2, 4, 1, 5);
        // By 5 YEARS 0 and 5 are together, unlike in the ROW: its greatest share is that of 4, 1 by 1, which 5 makes
        // where 0 and 5 are alike: 8 of 20, none of which is one of the 4 of length 4.
        tried(x, 4, 5, 3, 5);
    }

    static void promise9AllLengths() {
        tried(plusAndMinus(), 2, 12, 1, 1);
        tried(plusAndMinus(), 12, 12, 1, 1);
    }

    static void promise9AskingChangesNothing() {
        Edge.onlyAsks("tried(0, 2, 12, 0)", x -> x.tried(0, 2, 12, 0));
    }

    /** "OUTSIDE: from above to, too" */
    static void promise9FromAboveTo() {
        Edge.refused("3 to 2", x -> x.tried(1, 3, 2, 0), LOST - 2);
        Edge.refused("12 to 2", x -> x.tried(1, 12, 2, 1), LOST - 2);
        Edge.refused("12 to 11", x -> x.tried(1, 12, 11, 1), LOST - 2);
    }

    static void promise9FromTooSmallOrTooLarge() {
        Edge.refused("from 1", x -> x.tried(1, 1, 5, 0), LOST - 2);
        Edge.refused("from -12", x -> x.tried(1, -12, 12, 0), LOST - 2);
        Edge.refused("from 13 to 13", x -> x.tried(1, 13, 13, 0), LOST - 2);
        Edge.refused("from 13 to 12", x -> x.tried(1, 13, 12, 0), LOST - 2);
    }

    static void promise9ToTooSmallOrTooLarge() {
        Edge.refused("to 13", x -> x.tried(1, 2, 13, 0), LOST - 2);
        Edge.refused("1 to 1", x -> x.tried(1, 1, 1, 0), LOST - 2);
        Edge.refused("2 to 1", x -> x.tried(1, 2, 1, 0), LOST - 2);
    }

    static void promise9PartTooSmallOrTooLarge() {
        Edge.refused("part -1", x -> x.tried(1, 2, 3, -1), LOST - 2);
        Edge.refused("part 2", x -> x.tried(1, 2, 3, 2), LOST - 2);
    }

    static void promise9RowTooSmallOrTooLarge() {
        Edge.refused("row -1", x -> x.tried(-1, 2, 3, 0), LOST - 1);
        Edge.refused("row 6", x -> x.tried(6, 2, 3, 0), LOST - 1);
    }

    static void promise9OneNumberIs1By1() {
        RoundRows x = new RoundRows();
        x.year(0, 0, -4);
        tried(x, 2, 12, 1, 1);
    }

    /** Seven: 1 by 35 ways for 4 5 6 7 in even years, 1 by 35 for 1 2 3 4, as by 2 alone. */
    static void promise9SevenNumbersAreTaken() {
        RoundRows x = new RoundRows();
        Check.put(x, 0, 4, 1, 5, 2, 6, 3, 7);
        tried(x, 2, 2, 2, 35);
        tried(x, 2, 7, 1, 1);
    }

    static void promise9EightNumbersAreState() {
        Edge.refused("eight", RoundsEdges::usedByEight, x -> x.tried(0, 2, 12, 0), LOST - 3);
    }

    static void promise9NoneIsState() {
        Edge.refused("none", x -> x.tried(3, 2, 12, 1), LOST - 3);
    }

    static void promise9AFaultIsNo() {
        Edge.refused("a fault", Edge::faulty, x -> x.tried(1, 2, 3, 0), LOST - 5);
    }

    static void promise9AFaultGoesAheadOfState() {
        Edge.refused("a fault, none", Edge::faulty, x -> x.tried(3, 2, 3, 0), LOST - 5);
        Edge.refused("a fault, eight", Edge::faulty, x -> x.tried(0, 2, 3, 0), LOST - 5);
    }

    static void promise9TheFirstRefusalThatFits() {
        Edge.refused("row, all", Edge::faulty, x -> x.tried(6, 3, 2, 2), LOST - 1);
        Edge.refused("from above to, fault", Edge::faulty, x -> x.tried(1, 3, 2, 0), LOST - 2);
        Edge.refused("from above to, none", x -> x.tried(3, 3, 2, 0), LOST - 2);
        Edge.refused("part, eight", RoundsEdges::usedByEight, x -> x.tried(0, 2, 3, 2), LOST - 2);
    }

    static void promise9FarNumbers() {
        for (int far : Edge.FAR) {
            Edge.refused("row " + far, x -> x.tried(far, 2, 3, 0), LOST - 1);
            Edge.refused("from " + far, x -> x.tried(1, far, 12, 0), LOST - 2);
            Edge.refused("to " + far, x -> x.tried(1, 2, far, 0), LOST - 2);
            Edge.refused("both " + far, x -> x.tried(1, far, far, 0), LOST - 2);
            Edge.refused("part " + far, x -> x.tried(1, 2, 3, far), LOST - 2);
        }
    }

    // ---- Promise 10: "DRAWN: how many. UNKNOWN; OUTSIDE: n 1 to 100, seed; NO: a FAULT."

    private static RoundRows oneTenTwo() {
        RoundRows x = new RoundRows();
        Check.put(x, 0, 1, 10, 2);
        return x;
    }

    /** Without numbers all shares are 0 by 1, and as much; there is no STATE here. */
    static void promise10WithoutNumbersAllAreAsMuch() {
        RoundRows x = new RoundRows();
        due("n 1", x.drawn(0, 2, 1, 1), 1);
        due("n 100", x.drawn(0, 12, 100, 1000000), 100);
    }

    /** One number has no second place: nothing is drawn, all are as much. */
    static void promise10OneNumber() {
        RoundRows x = new RoundRows();
        x.year(0, 23, 9);
        due("n 1", x.drawn(0, 2, 1, 7), 1);
        due("n 100", x.drawn(0, 2, 100, 7), 100);
    }

    /** Two numbers: one number of the seed an order, odd: they stay, even: they change. By 2 all is 1 by 1. */
    static void promise10TwoNumbers() {
        RoundRows x = new RoundRows();
        Check.put(x, 0, 1, 2);
        due("n 5", x.drawn(0, 2, 5, 1), 5);
    }

    /** "from the last place down to the second": by 2 the 10 is to be alone, which is so in the tenth order first. */
    static void promise10LeastSeed() {
        RoundRows x = oneTenTwo();
        due("nine orders", x.drawn(0, 2, 9, 1), 0);
        due("ten orders", x.drawn(0, 2, 10, 1), 1);
    }

    /** 1774614471 by 3 leaves 0: 2 10 1; 1692524561 by 2 leaves 1: it stays. Then 1 2 10, then 1 10 2. */
    static void promise10GreatestSeed() {
        RoundRows x = oneTenTwo();
        due("one order", x.drawn(0, 2, 1, 1000000), 1);
        due("two orders", x.drawn(0, 2, 2, 1000000), 1);
        due("three orders", x.drawn(0, 2, 3, 1000000), 2);
    }

    static void promise10SeedTooSmallOrTooLarge() {
        Edge.refused("seed 0", x -> x.drawn(0, 2, 5, 0), Edge.OUTSIDE);
        Edge.refused("seed -1", x -> x.drawn(0, 2, 5, -1), Edge.OUTSIDE);
        Edge.refused("seed 1000001", x -> x.drawn(0, 2, 5, 1000001), Edge.OUTSIDE);
    }

    static void promise10FewestAndMostOrders() {
        RoundRows x = new RoundRows();
        Check.put(x, 0, 3, 3, 3);
        due("n 1", x.drawn(0, 2, 1, 5), 1);
        due("n 100", x.drawn(0, 2, 100, 5), 100);
    }

    static void promise10TooFewOrTooManyOrders() {
        Edge.refused("n 0", x -> x.drawn(0, 2, 0, 1), Edge.OUTSIDE);
        Edge.refused("n -1", x -> x.drawn(0, 2, -1, 1), Edge.OUTSIDE);
        Edge.refused("n 101", x -> x.drawn(0, 2, 101, 1), Edge.OUTSIDE);
    }

    /** "places of those that are not none": gaps do not change the draws, but the heaps. */
    static void promise10GapsHaveNoPlace() {
        RoundRows x = new RoundRows();
        Check.put(x, 0, 1, GAP, GAP, 10, GAP, GAP, 2);
        // Years 0, 3, 6: by 2 the second place is alone, as in years 0, 1, 2.
        due("nine orders", x.drawn(0, 2, 9, 1), 0);
        due("ten orders", x.drawn(0, 2, 10, 1), 1);
    }

    /** "each order from the one ahead", and each call from the ROW and its own seed. */
    static void promise10EachCallBeginsAnew() {
        RoundRows x = oneTenTwo();
        due("first", x.drawn(0, 2, 3, 1000000), 2);
        due("second", x.drawn(0, 2, 3, 1000000), 2);
        due("the row stays", x.year(0, 1, 10), 10);
    }

    /** All 24 places; a round of 2 as it stands is not drawn in a hundred orders. */
    static void promise10AllYearsHaveNumbers() {
        RoundRows x = new RoundRows();
        for (int year = 0; year < 24; year++) {
            x.year(0, year, year % 2 == 0 ? 99 : -99);
        }
        due("a round of 2", x.drawn(0, 2, 100, 1), 0);
        for (int year = 0; year < 24; year++) {
            x.year(0, year, year % 12 < 6 == year < 12 ? 99 : -99);
        }
        due("no round of 12", x.drawn(0, 12, 100, 1), 100);
    }

    static void promise10AskingChangesNothing() {
        Edge.onlyAsks("drawn(0, 2, 100, 1)", x -> x.drawn(0, 2, 100, 1));
    }

    static void promise10LengthTooSmallOrTooLarge() {
        Edge.refused("length 1", x -> x.drawn(0, 1, 5, 1), Edge.OUTSIDE);
        Edge.refused("length 13", x -> x.drawn(0, 13, 5, 1), Edge.OUTSIDE);
    }

    static void promise10RowTooSmallOrTooLarge() {
        Edge.refused("row -1", x -> x.drawn(-1, 2, 5, 1), Edge.UNKNOWN);
        Edge.refused("row 6", x -> x.drawn(6, 2, 5, 1), Edge.UNKNOWN);
        due("row 5", Edge.used().drawn(5, 2, 5, 1), 5);
    }

    static void promise10AFaultIsNo() {
        Edge.refused("a fault", Edge::faulty, x -> x.drawn(0, 2, 5, 1), Edge.NO);
        Edge.refused("a fault, none", Edge::faulty, x -> x.drawn(3, 2, 5, 1), Edge.NO);
    }

    static void promise10TheFirstRefusalThatFits() {
        Edge.refused("row, all", Edge::faulty, x -> x.drawn(6, 1, 0, 0), Edge.UNKNOWN);
        Edge.refused("length, fault", Edge::faulty, x -> x.drawn(0, 13, 1, 1), Edge.OUTSIDE);
        Edge.refused("n, fault", Edge::faulty, x -> x.drawn(0, 2, 0, 1), Edge.OUTSIDE);
        Edge.refused("seed, fault", Edge::faulty, x -> x.drawn(0, 2, 1, 0), Edge.OUTSIDE);
    }

    static void promise10FarNumbers() {
        for (int far : Edge.FAR) {
            Edge.refused("row " + far, x -> x.drawn(far, 2, 1, 1), Edge.UNKNOWN);
            Edge.refused("length " + far, x -> x.drawn(0, far, 1, 1), Edge.OUTSIDE);
            Edge.refused("n " + far, x -> x.drawn(0, 2, far, 1), Edge.OUTSIDE);
            Edge.refused("seed " + far, x -> x.drawn(0, 2, 1, far), Edge.OUTSIDE);
        }
    }
}
