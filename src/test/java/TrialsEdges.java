/** Promises 16 to 19, edge by edge: trial, of, print, lean. */
final class TrialsEdges {
    private static final long LOST = Edge.LOST;

    private TrialsEdges() { }

    private static void due(String call, long got, long want) {
        Edge.due(call, got, want);
    }

    // ---- Promise 16: "A TRIAL (the PAD stays): its number. UNKNOWN; OUTSIDE; FULL; NO: a FAULT (ahead of FULL)."

    /** "20 at most, numbered from 0 on" */
    static void promise16TwentyAreTaken() {
        RoundRows x = new RoundRows();
        for (int i = 0; i < 20; i++) {
            due("trial " + i, x.trial(i % 6, 2 + i % 11), i);
        }
        due("told(1)", x.told(1), 20);
        due("row of the last", x.of(19, 0), 1);
        due("length of the last", x.of(19, 1), 10);
    }

    static void promise16The21stIsFull() {
        Edge.refused("full", Edge::full, x -> x.trial(0, 2), Edge.FULL);
        Edge.refused("full, row 5, length 12", Edge::full, x -> x.trial(5, 12), Edge.FULL);
    }

    /** "NO: a FAULT (ahead of FULL)" */
    static void promise16AFaultGoesAheadOfFull() {
        Edge.refused("full, a fault", Edge::fullAndFaulty, x -> x.trial(0, 2), Edge.NO);
    }

    static void promise16OutsideGoesAheadOfFullAndFault() {
        Edge.refused("full", Edge::full, x -> x.trial(0, 13), Edge.OUTSIDE);
        Edge.refused("full, a fault", Edge::fullAndFaulty, x -> x.trial(0, 1), Edge.OUTSIDE);
        Edge.refused("a fault", Edge::faulty, x -> x.trial(0, 13), Edge.OUTSIDE);
    }

    static void promise16UnknownGoesAheadOfAll() {
        Edge.refused("full", Edge::full, x -> x.trial(6, 2), Edge.UNKNOWN);
        Edge.refused("full, a fault", Edge::fullAndFaulty, x -> x.trial(-1, 13), Edge.UNKNOWN);
        Edge.refused("length", x -> x.trial(6, 13), Edge.UNKNOWN);
    }

    static void promise16AFaultIsNo() {
        Edge.refused("a fault", Edge::faulty, x -> x.trial(0, 2), Edge.NO);
    }

    static void promise16RowTooSmallOrTooLarge() {
        Edge.refused("row -1", x -> x.trial(-1, 2), Edge.UNKNOWN);
        Edge.refused("row 6", x -> x.trial(6, 2), Edge.UNKNOWN);
        due("row 0", Edge.used().trial(0, 2), 3);
        due("row 5", Edge.used().trial(5, 2), 3);
    }

    static void promise16LengthTooSmallOrTooLarge() {
        Edge.refused("length 1", x -> x.trial(0, 1), Edge.OUTSIDE);
        Edge.refused("length 0", x -> x.trial(0, 0), Edge.OUTSIDE);
        Edge.refused("length 13", x -> x.trial(0, 13), Edge.OUTSIDE);
        due("length 2", Edge.used().trial(0, 2), 3);
        due("length 12", Edge.used().trial(0, 12), 3);
    }

    static void promise16ARefusedOneTakesNoNumber() {
        RoundRows x = new RoundRows();
        x.trial(6, 2);
        x.trial(0, 13);
        x.say('?');
        x.trial(0, 2);
        x.wipe();
        due("the first", x.trial(0, 2), 0);
    }

    /** "(the PAD stays)" */
    static void promise16ThePadStays() {
        RoundRows x = Edge.used();
        x.trial(0, 2);
        due("signs", x.told(0), 2);
        due("dealt(0, 1)", x.dealt(0, 1), 6);
    }

    /** "its SHARE as then": later numbers and signs are nothing to it. */
    static void promise16PercentIsAsThen() {
        RoundRows x = Edge.withPercents(100);
        Check.put(x, 0, 1, 2, 2, 1);
        x.say('?');
        due("as then", x.of(0, 2), 100);
        x.wipe();
        x.trial(0, 2);
        due("the next one", x.of(1, 2), 0);
        due("as then still", x.of(0, 2), 100);
    }

    static void promise16PercentIsOfTheDealtRow() {
        RoundRows x = new RoundRows();
        Check.put(x, 0, 1, 2, 2, 1);
        Check.pad(x, "c0001");
        x.trial(0, 2);
        due("cut", x.of(0, 2), 100);
    }

    static void promise16WithoutNumbersItIs0() {
        RoundRows x = new RoundRows();
        x.trial(5, 12);
        due("none", x.of(0, 2), 0);
    }

    /** "100 times that, cut": 135 by 136, and 1 by 1523. */
    static void promise16PercentIsCut() {
        RoundRows x = new RoundRows();
        Check.put(x, 0, 9, 1, 9, 2, 9);
        due("upper", x.share(0, 2, 0), 135);
        due("lower", x.share(0, 2, 1), 136);
        x.trial(0, 2);
        due("99 and more", x.of(0, 2), 99);
        Check.put(x, 1, 10, 10, -10, -9);
        due("upper", x.share(1, 2, 0), 1);
        due("lower", x.share(1, 2, 1), 1523);
        x.trial(1, 2);
        due("less than 1", x.of(1, 2), 0);
    }

    static void promise16PercentOf100() {
        RoundRows x = new RoundRows();
        Check.put(x, 0, -99, 99);
        x.trial(0, 12);
        due("all of it", x.of(0, 2), 100);
    }

    static void promise16FarNumbers() {
        for (int far : Edge.FAR) {
            Edge.refused("row " + far, x -> x.trial(far, 2), Edge.UNKNOWN);
            Edge.refused("length " + far, x -> x.trial(0, far), Edge.OUTSIDE);
        }
    }

    // ---- Promise 17: "Of a TRIAL: 0 ROW, 1 length, 2 PERCENT, 3 whether PRINTED (1, 0). UNKNOWN; OUTSIDE."

    static void promise17NoTrialsAreUnknown() {
        RoundRows x = new RoundRows();
        for (int what = 0; what < 4; what++) {
            due("of(0, " + what + ")", x.of(0, what), Edge.UNKNOWN);
        }
    }

    static void promise17TrialTooSmallOrTooLarge() {
        Edge.refused("of(-1, 0)", x -> x.of(-1, 0), Edge.UNKNOWN);
        Edge.refused("of(3, 0)", x -> x.of(3, 0), Edge.UNKNOWN);
        Edge.refused("of(19, 0)", x -> x.of(19, 0), Edge.UNKNOWN);
        Edge.refused("of(20, 0), full", Edge::full, x -> x.of(20, 0), Edge.UNKNOWN);
    }

    static void promise17FirstAndLastTrial() {
        RoundRows x = Edge.full();
        due("row of the first", x.of(0, 0), 1);
        due("length of the first", x.of(0, 1), 2);
        due("row of the last", x.of(19, 0), 0);
        due("length of the last", x.of(19, 1), 3);
    }

    static void promise17LeastAndGreatestOfAll() {
        RoundRows x = new RoundRows();
        Check.put(x, 5, 1, 5, 1, 5);
        x.trial(5, 12);
        x.trial(0, 2);
        due("row 5", x.of(0, 0), 5);
        due("length 12", x.of(0, 1), 12);
        due("percent 100", x.of(0, 2), 100);
        due("row 0", x.of(1, 0), 0);
        due("length 2", x.of(1, 1), 2);
        due("percent 0", x.of(1, 2), 0);
    }

    /** "It is PRINTED or not (at first not)." */
    static void promise17NotPrintedAtFirst() {
        RoundRows x = Edge.withPercents(100, 0);
        due("not", x.of(1, 3), 0);
        x.print(1, true);
        due("printed", x.of(1, 3), 1);
        due("not the other", x.of(0, 3), 0);
        x.print(1, false);
        due("not any more", x.of(1, 3), 0);
    }

    static void promise17AskingChangesNothing() {
        for (int what = 0; what < 4; what++) {
            int asked = what;
            Edge.onlyAsks("of(0, " + what + ")", x -> x.of(0, asked));
        }
    }

    static void promise17WhatTooSmallOrTooLarge() {
        Edge.refused("what -1", x -> x.of(0, -1), Edge.OUTSIDE);
        Edge.refused("what 4", x -> x.of(0, 4), Edge.OUTSIDE);
    }

    static void promise17UnknownGoesAheadOfOutside() {
        Edge.refused("of(3, 4)", x -> x.of(3, 4), Edge.UNKNOWN);
        Edge.refused("of(-1, -1)", x -> x.of(-1, -1), Edge.UNKNOWN);
    }

    static void promise17AFaultIsNothingToIt() {
        due("row", Edge.faulty().of(0, 0), 1);
    }

    static void promise17FarNumbers() {
        for (int far : Edge.FAR) {
            Edge.refused("trial " + far, x -> x.of(far, 0), Edge.UNKNOWN);
            Edge.refused("what " + far, x -> x.of(0, far), Edge.OUTSIDE);
        }
    }

    // ---- Promise 18: "A TRIAL is PRINTED, or not: whether it was (1, 0). UNKNOWN."

    static void promise18PrintedTwiceAndTakenBackTwice() {
        RoundRows x = Edge.withPercents(0);
        due("not, as it was", x.print(0, false), 0);
        due("printed", x.print(0, true), 0);
        due("printed again", x.print(0, true), 1);
        due("bits", x.told(2), 1);
        due("taken back", x.print(0, false), 1);
        due("taken back again", x.print(0, false), 0);
        due("bits", x.told(2), 0);
    }

    static void promise18FirstAndLastTrial() {
        RoundRows x = Edge.full();
        x.print(0, false);
        due("the last", x.print(19, true), 0);
        due("bits", x.told(2), 1 << 19);
        due("the first", x.print(0, true), 0);
        due("bits", x.told(2), 1 + (1 << 19));
        due("the last is let be", x.print(0, false), 1);
        due("bits", x.told(2), 1 << 19);
    }

    static void promise18TrialTooSmallOrTooLarge() {
        Edge.refused("-1", x -> x.print(-1, true), Edge.UNKNOWN);
        Edge.refused("3", x -> x.print(3, true), Edge.UNKNOWN);
        Edge.refused("3, false", x -> x.print(3, false), Edge.UNKNOWN);
        Edge.refused("20, full", Edge::full, x -> x.print(20, true), Edge.UNKNOWN);
        due("none at all", new RoundRows().print(0, true), Edge.UNKNOWN);
    }

    /** A shift by 32 is one by 0. */
    static void promise18TrialsDoNotWrapRound() {
        Edge.refused("32", x -> x.print(32, false), Edge.UNKNOWN);
        Edge.refused("33", x -> x.print(33, true), Edge.UNKNOWN);
        Edge.refused("-32", x -> x.print(-32, false), Edge.UNKNOWN);
        Edge.refused("64", x -> x.print(64, false), Edge.UNKNOWN);
    }

    static void promise18ALaterTrialIsNotPrinted() {
        RoundRows x = Edge.withPercents(100);
        x.print(1, true);
        x.trial(0, 2);
        due("refused ahead of it", x.of(1, 3), 0);
    }

    static void promise18FarNumbers() {
        for (int far : Edge.FAR) {
            Edge.refused("trial " + far, x -> x.print(far, true), Edge.UNKNOWN);
            Edge.refused("trial " + far + ", false", x -> x.print(far, false), Edge.UNKNOWN);
        }
    }

    // ---- Promise 19: "LEAN. OUTSIDE, STATE: none is PRINTED (LOST less 2, 3)."

    private static void lean(RoundRows x, long upper, long lower) {
        due("lean(0)", x.lean(0), upper);
        due("lean(1)", x.lean(1), lower);
    }

    static void promise19NoTrialsAreState() {
        lean(new RoundRows(), LOST - 3, LOST - 3);
    }

    static void promise19NonePrintedIsState() {
        RoundRows x = Edge.withPercents(100, 0);
        lean(x, LOST - 3, LOST - 3);
        x.print(1, true);
        lean(x, -50, 1);
        x.print(1, false);
        lean(x, LOST - 3, LOST - 3);
    }

    static void promise19RefusedOnesChangeNothing() {
        Edge.refused("part 2", x -> x.lean(2), LOST - 2);
        Edge.refused("part -1", x -> x.lean(-1), LOST - 2);
        Edge.refused("none", RoundRows::new, x -> x.lean(0), LOST - 3);
    }

    static void promise19AskingChangesNothing() {
        Edge.onlyAsks("lean(0)", x -> x.lean(0));
        Edge.onlyAsks("lean(1)", x -> x.lean(1));
    }

    static void promise19OutsideGoesAheadOfState() {
        due("part 2", new RoundRows().lean(2), LOST - 2);
        due("part -1", new RoundRows().lean(-1), LOST - 2);
    }

    static void promise19AllPrintedIs0By1() {
        RoundRows x = Edge.withPercents(100, 50, 16);
        for (int trial = 0; trial < 3; trial++) {
            x.print(trial, true);
        }
        lean(x, 0, 1);
    }

    static void promise19OneTrialIs0By1() {
        RoundRows x = Edge.withPercents(100);
        x.print(0, true);
        lean(x, 0, 1);
    }

    static void promise19PercentOf0() {
        RoundRows x = Edge.withPercents(0, 0, 0);
        x.print(2, true);
        lean(x, 0, 1);
    }

    /** "(the upper one may be below 0)", the lower one not. */
    static void promise19Below0() {
        RoundRows x = Edge.withPercents(100, 0, 0);
        x.print(1, true);
        lean(x, -100, 3);
        x.print(2, true);
        lean(x, -100, 3);
    }

    /** 100 less 100 by 3; 50 less 100 by 3: in lowest terms. */
    static void promise19LowestTerms() {
        RoundRows x = Edge.withPercents(100, 0, 0);
        x.print(0, true);
        lean(x, 200, 3);
        x.print(1, true);
        lean(x, 50, 3);
    }

    /** PERCENT is cut ahead of the mean: 99 and 100, not 135 by 136 of 100. */
    static void promise19MeansOfCutPercent() {
        RoundRows x = Edge.withPercents(99, 100);
        x.print(1, true);
        lean(x, 1, 2);
        x.print(1, false);
        x.print(0, true);
        lean(x, -1, 2);
    }

    static void promise19TwentyTrials() {
        RoundRows x = Edge.withPercents(100, 0, 0, 0, 0, 0, 0, 0, 0, 0, 0, 0, 0, 0, 0, 0, 0, 0, 0, 0);
        x.print(0, true);
        lean(x, 95, 1);
        x.print(0, false);
        x.print(19, true);
        lean(x, -5, 1);
        for (int trial = 1; trial < 19; trial++) {
            x.print(trial, true);
        }
        lean(x, -5, 1);
        x.print(0, true);
        lean(x, 0, 1);
    }

    static void promise19FarNumbers() {
        for (int far : Edge.FAR) {
            Edge.refused("part " + far, x -> x.lean(far), LOST - 2);
        }
    }
}
