/** Promises 20 to 27, edge by edge: reads, bar, club, least, truth, good, best, told. */
final class JudgesEdges {
    private static final int GAP = Edge.GAP;
    private static final int ALL = (1 << 20) - 1;

    private JudgesEdges() { }

    private static void due(String call, long got, long want) {
        Edge.due(call, got, want);
    }

    // ---- Promise 20: "TRIALS that a MAN READS (bits 0 to 2 to the 20 less 1): which they were. UNKNOWN; OUTSIDE."

    static void promise20LeastAndGreatestBits() {
        RoundRows x = new RoundRows();
        due("at first", x.reads(3, ALL), 0);
        due("all", x.reads(3, 0), ALL);
        due("none", x.reads(3, 0), 0);
    }

    static void promise20FirstAndLastMan() {
        RoundRows x = new RoundRows();
        due("man 0", x.reads(0, 1), 0);
        due("man 7", x.reads(7, 2), 0);
        due("man 0 again", x.reads(0, 0), 1);
        due("man 7 again", x.reads(7, 0), 2);
    }

    static void promise20BitsTooSmallOrTooLarge() {
        Edge.refused("-1", x -> x.reads(0, -1), Edge.OUTSIDE);
        Edge.refused("2 to the 20", x -> x.reads(0, 1 << 20), Edge.OUTSIDE);
        Edge.refused("2 to the 21 less 1", x -> x.reads(7, (1 << 21) - 1), Edge.OUTSIDE);
    }

    static void promise20ManTooSmallOrTooLarge() {
        Edge.refused("man -1", x -> x.reads(-1, 0), Edge.UNKNOWN);
        Edge.refused("man 8", x -> x.reads(8, 0), Edge.UNKNOWN);
    }

    static void promise20UnknownGoesAheadOfOutside() {
        Edge.refused("man 8, -1", x -> x.reads(8, -1), Edge.UNKNOWN);
        Edge.refused("man -1, 2 to the 20", x -> x.reads(-1, 1 << 20), Edge.UNKNOWN);
    }

    /** Bits of TRIALS that are not there are taken, and read once these are there. */
    static void promise20TrialsThatAreNotThere() {
        RoundRows x = new RoundRows();
        Check.put(x, 0, 1, 5, 1, 5);
        x.reads(2, 1);
        due("nobody believes", x.club(), 0);
        x.trial(0, 2);
        x.print(0, true);
        due("man 2 does", x.club(), 4);
        due("which they were", x.reads(2, 0), 1);
    }

    static void promise20FarNumbers() {
        for (int far : Edge.FAR) {
            Edge.refused("man " + far, x -> x.reads(far, 0), Edge.UNKNOWN);
            Edge.refused("bits " + far, x -> x.reads(0, far), Edge.OUTSIDE);
        }
    }

    // ---- Promise 21: "BAR: which it was. OUTSIDE."

    static void promise21LeastAndGreatest() {
        RoundRows x = new RoundRows();
        due("50 at first", x.bar(0), 50);
        due("0", x.bar(100), 0);
        due("100", x.bar(100), 100);
        due("told", x.told(3), 100);
    }

    static void promise21TooSmall() {
        Edge.refused("bar(-1)", x -> x.bar(-1), Edge.OUTSIDE);
    }

    static void promise21TooLarge() {
        Edge.refused("bar(101)", x -> x.bar(101), Edge.OUTSIDE);
    }

    static void promise21FarNumbers() {
        for (int far : Edge.FAR) {
            Edge.refused("bar(" + far + ")", x -> x.bar(far), Edge.OUTSIDE);
        }
    }

    // ---- Promise 22: "MEN who BELIEVE, as bits."

    private static void club(RoundRows x, int want) {
        due("club()", x.club(), want);
    }

    static void promise22NoTrials() {
        RoundRows x = new RoundRows();
        for (int man = 0; man < 8; man++) {
            x.reads(man, ALL);
        }
        x.bar(0);
        club(x, 0);
    }

    static void promise22NonePrinted() {
        RoundRows x = Edge.withPercents(100, 100);
        x.reads(0, 3);
        club(x, 0);
    }

    static void promise22NothingRead() {
        RoundRows x = Edge.withPercents(100);
        x.print(0, true);
        club(x, 0);
    }

    static void promise22AnotherOneRead() {
        RoundRows x = Edge.withPercents(100, 100);
        x.print(0, true);
        x.reads(0, 2);
        club(x, 0);
    }

    static void promise22FirstAndLastMan() {
        RoundRows x = Edge.withPercents(100);
        x.print(0, true);
        x.reads(0, 1);
        club(x, 1);
        x.reads(7, 1);
        club(x, 129);
    }

    static void promise22AllMen() {
        RoundRows x = Edge.withPercents(100);
        x.print(0, true);
        for (int man = 0; man < 8; man++) {
            x.reads(man, ALL);
        }
        club(x, 255);
    }

    static void promise22LastTrial() {
        RoundRows x = Edge.withPercents(0, 0, 0, 0, 0, 0, 0, 0, 0, 0, 0, 0, 0, 0, 0, 0, 0, 0, 0, 100);
        x.print(19, true);
        x.reads(1, 1 << 19);
        x.reads(2, ALL - (1 << 19));
        club(x, 2);
        x.print(0, true);
        x.reads(1, ALL);
        club(x, 0);
    }

    /** "more have PERCENT of BAR .. or more than less": as many are not more. */
    static void promise22AsManyIsNotMore() {
        RoundRows x = Edge.withPercents(100, 0, 100);
        x.reads(0, 7);
        x.print(0, true);
        x.print(1, true);
        club(x, 0);
        x.print(2, true);
        club(x, 1);
    }

    /** "PERCENT of BAR .. or more": 50 is enough for 50, not for 51. */
    static void promise22PercentJustOfTheBar() {
        RoundRows x = Edge.withPercents(50);
        x.reads(0, 1);
        x.print(0, true);
        club(x, 1);
        x.bar(51);
        club(x, 0);
        x.bar(49);
        club(x, 1);
    }

    static void promise22LeastBar() {
        RoundRows x = Edge.withPercents(0);
        x.reads(0, 1);
        x.print(0, true);
        club(x, 0);
        x.bar(0);
        club(x, 1);
        x.bar(1);
        club(x, 0);
    }

    static void promise22GreatestBar() {
        RoundRows x = Edge.withPercents(99, 100);
        x.reads(0, 1);
        x.reads(1, 2);
        x.print(0, true);
        x.print(1, true);
        x.bar(100);
        club(x, 2);
        x.bar(99);
        club(x, 3);
    }

    static void promise22AskingChangesNothing() {
        Edge.onlyAsks("club()", x -> x.club());
    }

    static void promise22TakenBackOnesDoNotCount() {
        RoundRows x = Edge.withPercents(100);
        x.reads(0, 1);
        x.print(0, true);
        x.print(0, false);
        club(x, 0);
    }

    // ---- Promise 23: "LEAST for MEN (bits 0 to 255): TRIALS as bits (what = 0), how many (1). OUTSIDE; NO: nothing does."

    private static void least(RoundRows x, int men, int bits) {
        due("least(" + men + ", 0)", x.least(men, 0), bits);
        due("least(" + men + ", 1)", x.least(men, 1), bits < 0 ? bits : Integer.bitCount(bits));
    }

    static void promise23NoTrials() {
        least(new RoundRows(), 0, 0);
        least(new RoundRows(), 255, 0);
    }

    static void promise23NoMen() {
        RoundRows x = Edge.withPercents(100);
        x.reads(0, 1);
        x.print(0, true);
        least(x, 0, 0);
        least(x, 1, Edge.NO);
    }

    static void promise23NobodyBelievesYet() {
        RoundRows x = Edge.withPercents(100, 0);
        x.reads(0, 3);
        least(x, 255, 0);
    }

    static void promise23AllMen() {
        RoundRows x = Edge.withPercents(100, 0);
        for (int man = 0; man < 8; man++) {
            x.reads(man, 3);
        }
        x.print(0, true);
        least(x, 255, 2);
        x.reads(7, 1);
        least(x, 255, Edge.NO);
        least(x, 127, 2);
        least(x, 128, Edge.NO);
    }

    /** "NO: nothing does": all is printed, or only high ones are left, or they are not read. */
    static void promise23NothingDoes() {
        RoundRows x = Edge.withPercents(100, 100, 0);
        x.reads(0, 3);
        x.print(0, true);
        least(x, 1, Edge.NO);
        x.print(1, true);
        x.print(2, true);
        least(x, 1, Edge.NO);
        Edge.refused("for man 0", () -> {
            RoundRows y = Edge.withPercents(100, 100);
            y.reads(0, 3);
            y.print(0, true);
            return y;
        }, y -> y.least(1, 0), Edge.NO);
    }

    /** Others may believe: told MEN alone are turned. */
    static void promise23MenWhoAreNotTold() {
        RoundRows x = Edge.withPercents(100, 0);
        x.reads(0, 3);
        x.reads(1, 1);
        x.print(0, true);
        least(x, 1, 2);
        least(x, 3, Edge.NO);
    }

    /** "the fewest": one that both read, not the two with lower bits. */
    static void promise23TheFewest() {
        RoundRows x = Edge.withPercents(100, 0, 0, 0);
        x.reads(0, 1 + 2 + 8);
        x.reads(1, 1 + 4 + 8);
        x.print(0, true);
        least(x, 3, 8);
    }

    /** "of several the least as bits" */
    static void promise23OfSeveralTheLeastAsBits() {
        RoundRows x = Edge.withPercents(0, 0, 100, 0, 0);
        x.reads(0, ALL);
        x.print(2, true);
        least(x, 1, 1);
        x.reads(0, ALL - 1);
        least(x, 1, 2);
        x.reads(0, ALL - 3);
        least(x, 1, 8);
        // Man 0: 1 or 3 or 4; man 1: 0 or 4: 4 alone does for both.
        x.reads(0, 4 + 2 + 8 + 16);
        x.reads(1, 4 + 1 + 16);
        least(x, 3, 16);
        x.reads(1, 4 + 1);
        least(x, 3, 3);
    }

    /** As many low ones as high ones are enough, as then not more are high. */
    static void promise23AsManyAreEnough() {
        RoundRows x = Edge.withPercents(100, 100, 100, 0, 0, 0);
        x.reads(0, ALL);
        for (int trial = 0; trial < 3; trial++) {
            x.print(trial, true);
        }
        least(x, 1, 8 + 16 + 32);
        x.reads(0, 1 + 2 + 8 + 16 + 32);
        least(x, 1, 8 + 16);
    }

    /** "12 at most are looked at, the first ones": the twelfth is, the thirteenth is not. */
    static void promise23TwelveAreLookedAt() {
        RoundRows x = Edge.withPercents(100, 0, 0, 0, 0, 0, 0, 0, 0, 0, 0, 0, 0, 0);
        x.print(0, true);
        x.reads(0, 1 + (1 << 12));
        x.reads(1, 1 + (1 << 13));
        least(x, 1, 1 << 12);
        least(x, 2, Edge.NO);
    }

    /** "TRIALS that are not PRINTED": the twelve are of these. */
    static void promise23PrintedOnesAreNotOfTheTwelve() {
        RoundRows x = Edge.withPercents(100, 0, 0, 0, 0, 0, 0, 0, 0, 0, 0, 0, 0, 0);
        x.print(0, true);
        x.print(5, true);
        x.reads(1, 1 + (1 << 13));
        least(x, 2, 1 << 13);
        x.print(5, false);
        least(x, 2, Edge.NO);
    }

    /** Eight high ones printed, the twelve others low: the last of twenty is looked at, too. */
    static void promise23LastTrial() {
        RoundRows x = Edge.withPercents(100, 100, 100, 100, 100, 100, 100, 100, 0, 0, 0, 0, 0, 0, 0, 0, 0, 0, 0, 0);
        for (int trial = 0; trial < 8; trial++) {
            x.print(trial, true);
        }
        x.reads(0, 1 + (1 << 19));
        least(x, 1, 1 << 19);
        x.reads(0, 255 + 0xff000);
        least(x, 1, 0xff000);
        x.reads(0, 255 + 0xfe000);
        least(x, 1, Edge.NO);
    }

    static void promise23AllTwelveAreNeeded() {
        RoundRows x = Edge.withPercents(100, 100, 100, 100, 100, 100, 100, 100, 100, 100, 0, 0, 0, 0, 0, 0, 0, 0, 0, 0);
        for (int trial = 0; trial < 10; trial++) {
            x.print(trial, true);
        }
        x.reads(0, ALL);
        least(x, 1, 0xffc00);
    }

    /** A TRIAL that is not there is not looked at, though it is READ. */
    static void promise23TrialsThatAreNotThere() {
        RoundRows x = Edge.withPercents(100, 100);
        x.reads(0, ALL);
        x.print(0, true);
        least(x, 1, Edge.NO);
        x.trial(3, 2);
        least(x, 1, 4);
    }

    static void promise23ItPrintsNothing() {
        RoundRows x = Edge.withPercents(100, 0);
        x.reads(0, 3);
        x.print(0, true);
        least(x, 1, 2);
        due("printed", x.told(2), 1);
        due("man 0 believes still", x.club(), 1);
    }

    /** The BAR tells which are low: at 0 none is. */
    static void promise23LeastAndGreatestBar() {
        RoundRows x = Edge.withPercents(100, 0, 99);
        x.reads(0, 7);
        x.print(0, true);
        least(x, 1, 2);
        x.bar(0);
        least(x, 1, Edge.NO);
        x.bar(100);
        x.reads(0, 5);
        least(x, 1, 4);
    }

    static void promise23AskingChangesNothing() {
        Edge.onlyAsks("least(1, 0)", x -> x.least(1, 0));
        Edge.onlyAsks("least(1, 1)", x -> x.least(1, 1));
    }

    static void promise23MenTooSmallOrTooLarge() {
        Edge.refused("men -1", x -> x.least(-1, 0), Edge.OUTSIDE);
        Edge.refused("men 256", x -> x.least(256, 0), Edge.OUTSIDE);
    }

    static void promise23WhatTooSmallOrTooLarge() {
        Edge.refused("what -1", x -> x.least(0, -1), Edge.OUTSIDE);
        Edge.refused("what 2", x -> x.least(0, 2), Edge.OUTSIDE);
    }

    static void promise23OutsideGoesAheadOfNo() {
        RoundRows x = Edge.withPercents(100);
        x.reads(0, 1);
        x.print(0, true);
        due("nothing does", x.least(255, 0), Edge.NO);
        due("men 257", x.least(257, 0), Edge.OUTSIDE);
        due("what 2", x.least(255, 2), Edge.OUTSIDE);
    }

    static void promise23FarNumbers() {
        for (int far : Edge.FAR) {
            Edge.refused("men " + far, x -> x.least(far, 0), Edge.OUTSIDE);
            Edge.refused("what " + far, x -> x.least(0, far), Edge.OUTSIDE);
        }
    }

    // ---- Promise 24: "TRUE TRIALS, as bits, likewise: which they were. OUTSIDE."

    static void promise24LeastAndGreatestBits() {
        RoundRows x = new RoundRows();
        due("at first", x.truth(ALL), 0);
        due("all", x.truth(0), ALL);
        due("none", x.truth(0), 0);
    }

    static void promise24BitsTooSmallOrTooLarge() {
        Edge.refused("-1", x -> x.truth(-1), Edge.OUTSIDE);
        Edge.refused("2 to the 20", x -> x.truth(1 << 20), Edge.OUTSIDE);
        Edge.refused("2 to the 21 less 1", x -> x.truth((1 << 21) - 1), Edge.OUTSIDE);
    }

    /** Bits of TRIALS that are not there are taken, and are true once these are there. */
    static void promise24TrialsThatAreNotThere() {
        RoundRows x = new RoundRows();
        x.truth(3);
        due("none are there", x.told(4), 0);
        x.trial(0, 2);
        due("the first is", x.told(4), 1);
        due("good(0)", x.good(0), 1);
        due("which they were", x.truth(0), 3);
    }

    static void promise24FarNumbers() {
        for (int far : Edge.FAR) {
            Edge.refused("bits " + far, x -> x.truth(far), Edge.OUTSIDE);
        }
    }

    // ---- Promise 25: "GOOD by a RULE p (0 to 101). OUTSIDE (GAP less 2)."

    static void promise25NoTrials() {
        RoundRows x = new RoundRows();
        x.truth(ALL);
        due("good(0)", x.good(0), 0);
        due("good(101)", x.good(101), 0);
    }

    static void promise25LeastRuleKeepsAll() {
        RoundRows x = Edge.withPercents(0, 0, 100);
        due("none true", x.good(0), -3);
        x.truth(1);
        due("one true", x.good(0), -1);
        x.truth(7);
        due("all true", x.good(0), 3);
    }

    static void promise25GreatestRuleKeepsNone() {
        RoundRows x = Edge.withPercents(100, 100);
        x.truth(1);
        due("good(101)", x.good(101), 0);
        x.truth(3);
        due("good(100)", x.good(100), 2);
        due("good(101)", x.good(101), 0);
    }

    /** "PERCENT p or more is kept" */
    static void promise25PercentJustP() {
        RoundRows x = Edge.withPercents(50);
        x.truth(1);
        due("good(49)", x.good(49), 1);
        due("good(50)", x.good(50), 1);
        due("good(51)", x.good(51), 0);
    }

    static void promise25TwentyTrials() {
        RoundRows x = Edge.withPercents(0, 0, 0, 0, 0, 0, 0, 0, 0, 0, 0, 0, 0, 0, 0, 0, 0, 0, 0, 0);
        due("none true", x.good(0), -20);
        x.truth(ALL);
        due("all true", x.good(0), 20);
        x.truth(1 << 19);
        due("the last true", x.good(0), -18);
    }

    static void promise25TrueOnesThatAreNotThereDoNotCount() {
        RoundRows x = Edge.withPercents(0);
        x.truth(ALL - 1);
        due("good(0)", x.good(0), -1);
    }

    static void promise25AskingChangesNothing() {
        Edge.onlyAsks("good(0)", x -> x.good(0));
    }

    static void promise25TooSmall() {
        Edge.refused("good(-1)", x -> x.good(-1), GAP - 2);
    }

    static void promise25TooLarge() {
        Edge.refused("good(102)", x -> x.good(102), GAP - 2);
    }

    static void promise25FarNumbers() {
        for (int far : Edge.FAR) {
            Edge.refused("good(" + far + ")", x -> x.good(far), GAP - 2);
        }
    }

    // ---- Promise 26: "BEST: p (what = 0), GOOD by it (1). OUTSIDE (GAP less 2)."

    private static void best(RoundRows x, int p, int good) {
        due("best(0)", x.best(0), p);
        due("best(1)", x.best(1), good);
    }

    static void promise26NoTrials() {
        best(new RoundRows(), 0, 0);
    }

    /** All are true: the least p keeps all of them. */
    static void promise26LeastP() {
        RoundRows x = Edge.withPercents(0, 50, 100);
        x.truth(7);
        best(x, 0, 3);
    }

    /** None is true, one has 100: only 101 keeps none. */
    static void promise26GreatestP() {
        RoundRows x = Edge.withPercents(0, 50, 100);
        best(x, 101, 0);
    }

    /** "the p .. with the greatest GOOD, the least such": one above what is not to be kept. */
    static void promise26TheLeastSuch() {
        RoundRows x = Edge.withPercents(0, 50, 99);
        best(x, 100, 0);
        x.truth(4);
        best(x, 51, 1);
        x.truth(2);
        // 1 to 50 keep one true and one other, 0; 100 and 101 keep none, 0.
        best(x, 1, 0);
        x.truth(1);
        // 0 keeps one true and two others, -1; 100 is the first to keep none.
        best(x, 100, 0);
        x.truth(6);
        best(x, 1, 2);
    }

    /** All p are alike good: 0 is the least. */
    static void promise26AllAlike() {
        RoundRows x = Edge.withPercents(100, 100);
        x.truth(1);
        best(x, 0, 0);
    }

    static void promise26TheBarIsNothingToIt() {
        RoundRows x = Edge.withPercents(50);
        x.bar(100);
        x.truth(1);
        best(x, 0, 1);
    }

    static void promise26AskingChangesNothing() {
        Edge.onlyAsks("best(0)", x -> x.best(0));
        Edge.onlyAsks("best(1)", x -> x.best(1));
    }

    static void promise26WhatTooSmallOrTooLarge() {
        Edge.refused("best(-1)", x -> x.best(-1), GAP - 2);
        Edge.refused("best(2)", x -> x.best(2), GAP - 2);
    }

    static void promise26FarNumbers() {
        for (int far : Edge.FAR) {
            Edge.refused("best(" + far + ")", x -> x.best(far), GAP - 2);
        }
    }

    // ---- Promise 27: "0 signs, 1 TRIALS, 2 PRINTED ones as bits, 3 BAR, 4 TRUE ones as bits (of those that there are),
    // 10 to 15 how many YEARS of a ROW have numbers. OUTSIDE."

    static void promise27ANewObject() {
        RoundRows x = new RoundRows();
        int[] want = {0, 0, 0, 50, 0};
        for (int what = 0; what < 5; what++) {
            due("told(" + what + ")", x.told(what), want[what]);
        }
        for (int what = 10; what < 16; what++) {
            due("told(" + what + ")", x.told(what), 0);
        }
    }

    static void promise27AFullObject() {
        RoundRows x = Edge.full();
        for (int trial = 0; trial < 20; trial++) {
            x.print(trial, true);
        }
        x.truth(ALL);
        x.bar(100);
        int[] want = {20, 20, ALL, 100, ALL};
        for (int what = 0; what < 5; what++) {
            due("told(" + what + ")", x.told(what), want[what]);
        }
    }

    /** "(of those that there are)" */
    static void promise27TrueOnesOfThoseThatThereAre() {
        RoundRows x = Edge.withPercents(0, 0);
        x.truth(4);
        due("not there", x.told(4), 0);
        x.truth(ALL);
        due("two are there", x.told(4), 3);
        x.trial(0, 2);
        due("three are there", x.told(4), 7);
    }

    static void promise27FirstAndLastRow() {
        RoundRows x = new RoundRows();
        x.year(0, 0, 1);
        x.year(5, 0, 1);
        x.year(5, 23, 1);
        due("row 0", x.told(10), 1);
        due("row 1", x.told(11), 0);
        due("row 4", x.told(14), 0);
        due("row 5", x.told(15), 2);
    }

    static void promise27AllYears() {
        RoundRows x = new RoundRows();
        for (int year = 0; year < 24; year++) {
            x.year(2, year, 0);
            due("told(12)", x.told(12), year + 1);
        }
        x.year(2, 23, GAP);
        due("one taken away", x.told(12), 23);
    }

    /** "YEARS of a ROW", not of the DEALT one; a FAULT is nothing to it. */
    static void promise27ThePadIsNothingToRows() {
        RoundRows x = Edge.used();
        Check.pad(x, "c2323");
        due("behind a cut", x.told(10), 8);
        x.say('?');
        due("behind a fault", x.told(10), 8);
        due("signs", x.told(0), 6);
    }

    static void promise27WhatTooSmallOrTooLarge() {
        Edge.refused("told(-1)", x -> x.told(-1), Edge.OUTSIDE);
        Edge.refused("told(16)", x -> x.told(16), Edge.OUTSIDE);
    }

    static void promise27AskingChangesNothing() {
        for (int what : new int[] {0, 1, 2, 3, 4, 10, 15}) {
            Edge.onlyAsks("told(" + what + ")", x -> x.told(what));
        }
    }

    static void promise27WhatInBetween() {
        for (int what = 5; what < 10; what++) {
            int asked = what;
            Edge.refused("told(" + what + ")", x -> x.told(asked), Edge.OUTSIDE);
        }
    }

    static void promise27FarNumbers() {
        for (int far : Edge.FAR) {
            Edge.refused("told(" + far + ")", x -> x.told(far), Edge.OUTSIDE);
        }
    }
}
