/** Promises 1 to 6, edge by edge: a new object, year, say, wipe, fault, dealt. */
final class RowsEdges {
    private static final int GAP = Edge.GAP;

    private RowsEdges() { }

    private static void due(String call, long got, long want) {
        Edge.due(call, got, want);
    }

    // ---- Promise 1: "All YEARS are without numbers; no TRIALS; the PAD is empty."

    static void promise1AllYearsAreWithoutNumbers() {
        RoundRows x = new RoundRows();
        for (int row = 0; row < 6; row++) {
            due("told(" + (10 + row) + ")", x.told(10 + row), 0);
            for (int year = 0; year < 24; year++) {
                due("year(" + row + ", " + year + ", GAP)", x.year(row, year, GAP), GAP);
            }
        }
    }

    static void promise1DealtYearsAreWithoutNumbersToo() {
        RoundRows x = new RoundRows();
        for (int row = 0; row < 6; row++) {
            for (int year = 0; year < 24; year++) {
                due("dealt(" + row + ", " + year + ")", x.dealt(row, year), GAP);
            }
        }
    }

    static void promise1NoTrials() {
        RoundRows x = new RoundRows();
        due("told(1)", x.told(1), 0);
        due("told(2)", x.told(2), 0);
        due("of(0, 0)", x.of(0, 0), Edge.UNKNOWN);
        due("print(0, true)", x.print(0, true), Edge.UNKNOWN);
        due("lean(0)", x.lean(0), Edge.LOST - 3);
        due("the first trial's number", x.trial(0, 2), 0);
    }

    static void promise1ThePadIsEmpty() {
        RoundRows x = new RoundRows();
        due("told(0)", x.told(0), 0);
        due("fault()", x.fault(), Edge.NONE);
        due("wipe()", x.wipe(), 0);
        due("the first sign", x.say('d'), 1);
    }

    /** Terms, part 5: "BAR (0 to 100; 50 at first)". */
    static void promise1TheBarIs50AtFirst() {
        due("told(3)", new RoundRows().told(3), 50);
        due("bar(0)", new RoundRows().bar(0), 50);
    }

    static void promise1NobodyReadsAndNothingIsTrue() {
        RoundRows x = new RoundRows();
        for (int man = 0; man < 8; man++) {
            due("reads(" + man + ", 1)", x.reads(man, 1), 0);
        }
        due("truth(1)", x.truth(1), 0);
        due("told(4)", x.told(4), 0);
        due("club()", x.club(), 0);
    }

    static void promise1ObjectsHaveNothingInCommon() {
        RoundRows x = new RoundRows();
        RoundRows other = Edge.full();
        Edge.check.holds("made ahead of one in use", Edge.view(x).equals(Edge.view(new RoundRows())));
        due("the one in use", other.told(0), 20);
    }

    /** "An object is used for at most 512 calls": the last of them is answered as the first. */
    static void promise1All512CallsAreAnswered() {
        RoundRows x = new RoundRows();
        for (int call = 1; call < 512; call++) {
            int v = call % 199 - 99;
            int was = call == 1 ? GAP : (call - 1) % 199 - 99;
            due("call " + call, x.year(3, 7, v), was);
        }
        due("call 512", x.dealt(3, 7), 511 % 199 - 99);
    }

    static void promise1TheConstants() {
        due("UNKNOWN", RoundRows.UNKNOWN, -1);
        due("OUTSIDE", RoundRows.OUTSIDE, -2);
        due("STATE", RoundRows.STATE, -3);
        due("FULL", RoundRows.FULL, -4);
        due("NO", RoundRows.NO, -5);
        due("NONE", RoundRows.NONE, -6);
        due("LOST", RoundRows.LOST, -1000000000000000000L);
        due("GAP", RoundRows.GAP, -1000000);
    }

    // ---- Promise 2: "A YEAR of a ROW (GAP: none): which it was. UNKNOWN, OUTSIDE (GAP less 1, 2)."

    static void promise2FirstAndLastRow() {
        RoundRows x = new RoundRows();
        due("row 0", x.year(0, 3, 1), GAP);
        due("row 5", x.year(5, 3, 2), GAP);
        due("row 0 again", x.year(0, 3, 1), 1);
        due("row 5 again", x.year(5, 3, 2), 2);
    }

    static void promise2FirstAndLastYear() {
        RoundRows x = new RoundRows();
        due("year 0", x.year(1, 0, 3), GAP);
        due("year 23", x.year(1, 23, 4), GAP);
        due("year 0 again", x.year(1, 0, 3), 3);
        due("year 23 again", x.year(1, 23, 4), 4);
        due("two of them", x.told(11), 2);
    }

    static void promise2LeastAndGreatestNumber() {
        RoundRows x = new RoundRows();
        due("-99", x.year(0, 0, -99), GAP);
        due("99", x.year(0, 0, 99), -99);
        due("which it was", x.year(0, 0, 99), 99);
    }

    static void promise2ZeroIsANumber() {
        RoundRows x = new RoundRows();
        due("0", x.year(0, 0, 0), GAP);
        due("one number", x.told(10), 1);
        due("which it was", x.year(0, 0, 5), 0);
    }

    static void promise2GapMakesNone() {
        RoundRows x = new RoundRows();
        x.year(0, 0, 7);
        due("which it was", x.year(0, 0, GAP), 7);
        due("none now", x.told(10), 0);
        due("none it was", x.year(0, 0, GAP), GAP);
    }

    static void promise2RowTooSmall() {
        Edge.refused("year(-1, 0, 0)", x -> x.year(-1, 0, 0), GAP - 1);
    }

    static void promise2RowTooLarge() {
        Edge.refused("year(6, 0, 0)", x -> x.year(6, 0, 0), GAP - 1);
    }

    static void promise2YearTooSmall() {
        Edge.refused("year(0, -1, 0)", x -> x.year(0, -1, 0), GAP - 2);
        Edge.refused("year(1, -1, 0)", x -> x.year(1, -1, 0), GAP - 2);
    }

    static void promise2YearTooLarge() {
        Edge.refused("year(0, 24, 0)", x -> x.year(0, 24, 0), GAP - 2);
        Edge.refused("year(5, 24, 0)", x -> x.year(5, 24, 0), GAP - 2);
    }

    static void promise2NumberTooSmall() {
        Edge.refused("year(0, 0, -100)", x -> x.year(0, 0, -100), GAP - 2);
    }

    static void promise2NumberTooLarge() {
        Edge.refused("year(0, 0, 100)", x -> x.year(0, 0, 100), GAP - 2);
    }

    static void promise2BesideGapIsOutside() {
        Edge.refused("GAP + 1", x -> x.year(0, 0, GAP + 1), GAP - 2);
        Edge.refused("GAP - 1", x -> x.year(0, 0, GAP - 1), GAP - 2);
        Edge.refused("-GAP", x -> x.year(0, 0, -GAP), GAP - 2);
    }

    static void promise2GapInAYearThatIsNot() {
        Edge.refused("year(0, 24, GAP)", x -> x.year(0, 24, GAP), GAP - 2);
    }

    static void promise2UnknownGoesAheadOfOutside() {
        Edge.refused("year(6, 24, 100)", x -> x.year(6, 24, 100), GAP - 1);
        Edge.refused("year(-1, 0, 100)", x -> x.year(-1, 0, 100), GAP - 1);
    }

    static void promise2FarNumbers() {
        for (int far : Edge.FAR) {
            Edge.refused("row " + far, x -> x.year(far, 0, 0), GAP - 1);
            Edge.refused("year " + far, x -> x.year(0, far, 0), GAP - 2);
            Edge.refused("number " + far, x -> x.year(0, 0, far), GAP - 2);
        }
    }

    static void promise2AFaultOrAFullDrawerIsNothingToIt() {
        due("with a fault", Edge.faulty().year(0, 0, 3), 1);
        due("with all full", Edge.full().year(0, 0, 3), 1);
    }

    // ---- Promise 3: "A sign more: how many. OUTSIDE; FULL."

    static void promise3FirstAndLastSign() {
        RoundRows x = new RoundRows();
        due("33", x.say(33), 1);
        due("126", x.say(126), 2);
    }

    static void promise3SignTooSmall() {
        Edge.refused("say(32)", x -> x.say(32), Edge.OUTSIDE);
        Edge.refused("say(0)", x -> x.say(0), Edge.OUTSIDE);
        Edge.refused("say(-1)", x -> x.say(-1), Edge.OUTSIDE);
    }

    static void promise3SignTooLarge() {
        Edge.refused("say(127)", x -> x.say(127), Edge.OUTSIDE);
    }

    /** A sign's lowest eight, or sixteen, bits alone would be a d. */
    static void promise3SignsDoNotWrapRound() {
        Edge.refused("say(256 + d)", x -> x.say(256 + 'd'), Edge.OUTSIDE);
        Edge.refused("say(65536 + d)", x -> x.say(65536 + 'd'), Edge.OUTSIDE);
        Edge.refused("say(d - 256)", x -> x.say('d' - 256), Edge.OUTSIDE);
    }

    static void promise3FarNumbers() {
        for (int far : Edge.FAR) {
            Edge.refused("say(" + far + ")", x -> x.say(far), Edge.OUTSIDE);
        }
    }

    static void promise3TwentySignsAreTaken() {
        RoundRows x = new RoundRows();
        for (int i = 1; i <= 20; i++) {
            due("sign " + i, x.say('d'), i);
        }
        due("told(0)", x.told(0), 20);
    }

    static void promise3The21stIsFull() {
        Edge.refused("say(d), full", Edge::full, x -> x.say('d'), Edge.FULL);
        Edge.refused("say(d), full again", Edge::full, x -> x.say('d') + x.say('d'), 2 * Edge.FULL);
    }

    static void promise3OutsideGoesAheadOfFull() {
        Edge.refused("say(32), full", Edge::full, x -> x.say(32), Edge.OUTSIDE);
        Edge.refused("say(127), full", Edge::full, x -> x.say(127), Edge.OUTSIDE);
    }

    static void promise3SignsThatCanNotStandAreTaken() {
        RoundRows x = new RoundRows();
        due("?", x.say('?'), 1);
        due("d behind it", x.say('d'), 2);
        due("fault", x.fault(), 0);
    }

    // ---- Promise 4: "Signs go: how many there were."

    static void promise4EmptyPad() {
        RoundRows x = new RoundRows();
        due("wipe()", x.wipe(), 0);
        due("and again", x.wipe(), 0);
    }

    static void promise4OneSign() {
        RoundRows x = new RoundRows();
        x.say('d');
        due("wipe()", x.wipe(), 1);
        due("wipe() again", x.wipe(), 0);
    }

    static void promise4FullPad() {
        RoundRows x = Edge.full();
        due("wipe()", x.wipe(), 20);
        due("told(0)", x.told(0), 0);
        due("it takes signs again", x.say('d'), 1);
    }

    static void promise4OldSignsDoNotComeBack() {
        RoundRows x = new RoundRows();
        Check.pad(x, "s2d");
        x.wipe();
        x.say('s');
        due("the 2 is gone", x.fault(), 1);
    }

    static void promise4TheFaultGoesWithTheSigns() {
        RoundRows x = Edge.faulty();
        due("a fault", x.fault(), 2);
        due("wipe()", x.wipe(), 3);
        due("no fault", x.fault(), Edge.NONE);
        due("the row as it was", x.dealt(0, 1), 5);
    }

    static void promise4AllElseStays() {
        RoundRows x = Edge.used();
        RoundRows y = Edge.used();
        x.wipe();
        Check.pad(x, "s2");
        Edge.check.holds("the same signs again", Edge.view(x).equals(Edge.view(y)));
    }

    // ---- Promise 5: "THE FAULT of the PAD; NONE."

    private static void fault(String text, int want) {
        RoundRows x = new RoundRows();
        Check.pad(x, text);
        due("fault() of '" + text + "'", x.fault(), want);
        due("fault() again of '" + text + "'", x.fault(), want);
        due("signs of '" + text + "'", x.told(0), text.length());
    }

    static void promise5EmptyPadHasNone() {
        fault("", Edge.NONE);
    }

    static void promise5FirstSignThatCanNotStand() {
        fault("x", 0);
        fault("!", 0);
        fault("~", 0);
        fault("0", 0);
        fault("5d", 0);
        fault("D", 0);
        fault("xs2", 0);
    }

    static void promise5FirstOfSeveral() {
        fault("dx?", 1);
        fault("s2x", 2);
        fault("t00x", 3);
        fault("c0000x", 5);
        fault("s9l0", 1);
    }

    /** "s and a digit 2 to 5" */
    static void promise5SmoothDigit() {
        fault("s1", 1);
        fault("s2", Edge.NONE);
        fault("s5", Edge.NONE);
        fault("s6", 1);
        fault("s0", 1);
        fault("s9", 1);
        fault("ss", 1);
        fault("s/", 1);
        fault("s:", 1);
    }

    /** "l and a digit 1 to 9" */
    static void promise5LagDigit() {
        fault("l0", 1);
        fault("l1", Edge.NONE);
        fault("l9", Edge.NONE);
        fault("l:", 1);
        fault("l/", 1);
        fault("ll", 1);
        fault("l12", 2);
    }

    /** "two digits: 00 to 23" */
    static void promise5TurnDigits() {
        fault("t00", Edge.NONE);
        fault("t09", Edge.NONE);
        fault("t19", Edge.NONE);
        fault("t23", Edge.NONE);
        fault("t24", 2);
        fault("t29", 2);
        fault("t3", 1);
        fault("t30", 1);
        fault("t9", 1);
        fault("t/", 1);
        fault("t0/", 2);
        fault("t0:", 2);
        fault("t2d", 2);
    }

    /** "two digits: 00 to 23", of a CUT's first year. */
    static void promise5CutFrom() {
        fault("c0023", Edge.NONE);
        fault("c2323", Edge.NONE);
        fault("c24", 2);
        fault("c2423", 2);
        fault("c3", 1);
        fault("c:", 1);
        fault("c0x", 2);
    }

    /** "two digits: 00 to 23", of a CUT's last year. */
    static void promise5CutTill() {
        fault("c0024", 4);
        fault("c0029", 4);
        fault("c003", 3);
        fault("c0030", 3);
        fault("c00d", 3);
        fault("c002d", 4);
        fault("c000/", 4);
    }

    /** "a CUT's from not above till": just not above. */
    static void promise5CutOfOneYear() {
        fault("c0000", Edge.NONE);
        fault("c0909", Edge.NONE);
        fault("c1010", Edge.NONE);
        fault("c1919", Edge.NONE);
        fault("c2020", Edge.NONE);
    }

    /** "its fourth digit .. can not stand" */
    static void promise5CutsFourthDigit() {
        fault("c0100", 4);
        fault("c0908", 4);
        fault("c1110", 4);
        fault("c1918", 4);
        fault("c2322", 4);
        fault("c2120", 4);
    }

    /** "or its third": no fourth digit would make it, whether there is one or not. */
    static void promise5CutsThirdDigit() {
        fault("c1009", 3);
        fault("c100", 3);
        fault("c2019", 3);
        fault("c201", 3);
        fault("c2000", 3);
        fault("c231", 3);
    }

    /** A third digit that one fourth digit would make good can stand. */
    static void promise5CutsThirdDigitThatCanStand() {
        fault("c191", 4);
        fault("c090", 4);
        fault("c232", 4);
        fault("c091", 4);
        fault("c192", 4);
    }

    /** "the number of signs, if more must come" */
    static void promise5MoreMustCome() {
        fault("s", 1);
        fault("l", 1);
        fault("t", 1);
        fault("t2", 2);
        fault("c", 1);
        fault("c0", 2);
        fault("c00", 3);
        fault("c000", 4);
        fault("ds", 2);
        fault("s2l", 3);
    }

    static void promise5FullPad() {
        fault("dddddddddddddddddddd", Edge.NONE);
        fault("ddddddddddddddddddds", 20);
        fault("dddddddddddddddddddx", 19);
        fault("dddddddddddddddc0023", Edge.NONE);
        fault("ddddddddddddddddc002", 20);
        fault("dddddddddddddddc1918", 19);
        fault("dddddddddddddddc2019", 18);
    }

    /** Of all signs that can be said, those can stand at a place that the document names, and no other. */
    static void promise5EverySignAtEveryPlace() {
        String digits = "0123456789";
        standing("", "sltcd");
        standing("s", "2345");
        standing("l", "123456789");
        standing("t", "012");
        standing("t0", digits);
        standing("t1", digits);
        standing("t2", "0123");
        standing("c", "012");
        standing("c0", digits);
        standing("c1", digits);
        standing("c2", "0123");
        standing("c00", "012");
        standing("c09", "012");
        standing("c10", "12");
        standing("c19", "12");
        standing("c20", "2");
        standing("c23", "2");
        standing("c000", digits);
        standing("c090", "9");
        standing("c091", digits);
        standing("c151", "56789");
        standing("c152", "0123");
        standing("c202", "0123");
        standing("c212", "123");
        standing("c232", "3");
    }

    /** The text is without a fault but that more must come; the dealing behind it, too. */
    private static void standing(String text, String canStand) {
        for (int sign = 33; sign <= 126; sign++) {
            boolean can = canStand.indexOf(sign) >= 0;
            String more = text + (char) sign;
            int due = !can ? text.length() : isWhole(more) ? Edge.NONE : more.length();
            fault(more, due);
            fault("d" + more, due == Edge.NONE ? due : due + 1);
        }
    }

    private static boolean isWhole(String text) {
        int digits = "d".equals(text) ? 0 : text.charAt(0) == 't' ? 2 : text.charAt(0) == 'c' ? 4 : 1;
        return text.length() == 1 + digits;
    }

    static void promise5ASignMoreMendsIt() {
        RoundRows x = new RoundRows();
        int[] want = {1, 2, 3, 4, Edge.NONE, 6, Edge.NONE};
        String text = "c0519s3";
        for (int i = 0; i < text.length(); i++) {
            x.say(text.charAt(i));
            due("fault() behind " + text.substring(0, i + 1), x.fault(), want[i]);
        }
    }

    static void promise5AskingChangesNothing() {
        Edge.onlyAsks("fault()", x -> x.fault());
    }

    // ---- Promise 6: "A YEAR of a ROW DEALT as the PAD tells; GAP. UNKNOWN, OUTSIDE, NO: the PAD has a FAULT
    // (GAP less 1, 2, 5)."

    private static void dealt(RoundRows x, String text, int year, int want) {
        Check.pad(x, text);
        due("dealt(0, " + year + ") by '" + text + "'", x.dealt(0, year), want);
    }

    static void promise6EmptyPadLeavesTheRow() {
        RoundRows x = Edge.used();
        dealt(x, "", 0, 1);
        dealt(x, "", 7, 2);
        dealt(x, "", 8, GAP);
        dealt(x, "", 23, GAP);
        due("row 5, year 23", x.dealt(5, 23), -99);
    }

    /** SMOOTH: "A YEAR becomes none, if one that it needs is .. ahead of YEAR 0". */
    static void promise6SmoothNeedsYearsAheadOfYear0() {
        RoundRows x = new RoundRows();
        Check.put(x, 0, 1, 2, 4, 8, 16, 32);
        for (int m = 2; m <= 5; m++) {
            dealt(x, "s" + m, 0, GAP);
            dealt(x, "s" + m, m - 2, GAP);
            dealt(x, "s" + m, m - 1, (1 << m) - 1);
            dealt(x, "s" + m, 5, (1 << 6) - (1 << (6 - m)));
        }
    }

    /** SMOOTH: "A YEAR becomes none, if one that it needs is none". */
    static void promise6SmoothNeedsNumbers() {
        RoundRows x = new RoundRows();
        Check.put(x, 0, 1, 2, 3, GAP, 5, 6, 7, 8, 9);
        for (int m = 2; m <= 5; m++) {
            dealt(x, "s" + m, 3, GAP);
            dealt(x, "s" + m, 2 + m, GAP);
        }
        dealt(x, "s2", 5, 11);
        dealt(x, "s5", 8, 35);
    }

    /** SMOOTH of the last year. */
    static void promise6SmoothOfTheLastYear() {
        RoundRows x = new RoundRows();
        for (int year = 19; year < 24; year++) {
            x.year(0, year, year);
        }
        dealt(x, "s5", 23, 105);
        dealt(x, "s5", 22, GAP);
    }

    /** LAG: "or ahead of YEAR 0". */
    static void promise6LagNeedsYearsAheadOfYear0() {
        RoundRows x = new RoundRows();
        for (int year = 0; year < 24; year++) {
            x.year(0, year, year);
        }
        for (int by = 1; by <= 9; by++) {
            dealt(x, "l" + by, by - 1, GAP);
            dealt(x, "l" + by, by, 0);
            dealt(x, "l" + by, 23, 23 - by);
        }
    }

    /** LAG: "if one that it needs is none"; its own number it does not need. */
    static void promise6LagNeedsANumber() {
        RoundRows x = new RoundRows();
        Check.put(x, 0, 7, GAP, 9);
        dealt(x, "l1", 1, 7);
        dealt(x, "l1", 2, GAP);
        dealt(x, "l1", 3, 9);
        dealt(x, "l1", 4, GAP);
    }

    /** LAG does not go round: what leaves at YEAR 23 is gone. */
    static void promise6LagDoesNotGoRound() {
        RoundRows x = new RoundRows();
        x.year(0, 23, 5);
        dealt(x, "l1", 0, GAP);
        dealt(x, "l1", 23, GAP);
        x.year(0, 0, 4);
        dealt(x, "l9l9l5", 23, 4);
        dealt(x, "l9l9l6", 23, GAP);
        dealt(x, "l9l9l6", 0, GAP);
    }

    /** TURN: "from that YEAR on all are turned over". */
    static void promise6TurnFromTheFirstYear() {
        RoundRows x = new RoundRows();
        Check.put(x, 0, 7, -8);
        x.year(0, 23, 9);
        dealt(x, "t00", 0, -7);
        dealt(x, "t00", 1, 8);
        dealt(x, "t00", 23, -9);
        dealt(x, "t01", 0, 7);
        dealt(x, "t01", 1, 8);
    }

    static void promise6TurnFromTheLastYear() {
        RoundRows x = new RoundRows();
        x.year(0, 22, 8);
        x.year(0, 23, 9);
        dealt(x, "t23", 22, 8);
        dealt(x, "t23", 23, -9);
    }

    static void promise6TurnLeavesNoneAnd0() {
        RoundRows x = new RoundRows();
        Check.put(x, 0, 0, GAP, 99);
        dealt(x, "t00", 0, 0);
        dealt(x, "t00", 1, GAP);
        dealt(x, "t00", 2, -99);
        dealt(x, "t00", 3, GAP);
    }

    /** CUT: "none but from that YEAR to that one (both counted)". */
    static void promise6CutCountsBoth() {
        RoundRows x = new RoundRows();
        Check.put(x, 0, 1, 2, 3, 4, 5);
        dealt(x, "c0103", 0, GAP);
        dealt(x, "c0103", 1, 2);
        dealt(x, "c0103", 3, 4);
        dealt(x, "c0103", 4, GAP);
    }

    static void promise6CutToOneYear() {
        RoundRows x = new RoundRows();
        Check.put(x, 0, 1, 2, 3);
        dealt(x, "c0101", 0, GAP);
        dealt(x, "c0101", 1, 2);
        dealt(x, "c0101", 2, GAP);
    }

    static void promise6CutToAllYears() {
        RoundRows x = new RoundRows();
        x.year(0, 0, 1);
        x.year(0, 23, 2);
        dealt(x, "c0023", 0, 1);
        dealt(x, "c0023", 23, 2);
        dealt(x, "c0122", 0, GAP);
        dealt(x, "c0122", 23, GAP);
        dealt(x, "c2323", 23, 2);
        dealt(x, "c0000", 0, 1);
    }

    static void promise6CutMakesNoNumbers() {
        RoundRows x = new RoundRows();
        Check.put(x, 0, 1, GAP, 3);
        dealt(x, "c0002", 1, GAP);
        dealt(x, "c0323", 3, GAP);
    }

    /** d: "what it is less the one ahead", which YEAR 0 does not have. */
    static void promise6DifferenceNeedsTheOneAhead() {
        RoundRows x = new RoundRows();
        Check.put(x, 0, 1, 4, GAP, 5, 9);
        x.year(0, 22, 3);
        x.year(0, 23, -3);
        dealt(x, "d", 0, GAP);
        dealt(x, "d", 1, 3);
        dealt(x, "d", 2, GAP);
        dealt(x, "d", 3, GAP);
        dealt(x, "d", 4, 4);
        dealt(x, "d", 23, -6);
    }

    /** "numbers are held to -999 .. 999": 990 is let be, 1485 is held. */
    static void promise6HeldTo999() {
        RoundRows x = new RoundRows();
        Check.put(x, 0, 99, 99, 99, 99, 99, 99, 99);
        dealt(x, "s5s2", 5, 990);
        dealt(x, "s5s3", 6, 999);
    }

    static void promise6HeldToLess999() {
        RoundRows x = new RoundRows();
        Check.put(x, 0, -99, -99, -99, -99, -99, -99, -99);
        dealt(x, "s5s2", 5, -990);
        dealt(x, "s5s3", 6, -999);
    }

    /** 333 and 333 and 333 are 999 just; 334 for one of them is one too many. */
    static void promise6HeldJustAtTheEdge() {
        RoundRows x = new RoundRows();
        Check.put(x, 0, 66, 67, 67, 67, 66, 66, 67);
        dealt(x, "s5", 4, 333);
        dealt(x, "s5", 6, 333);
        dealt(x, "s5s3", 6, 999);
        x.year(0, 6, 66);
        dealt(x, "s5s3", 6, 998);
        x.year(0, 6, 68);
        dealt(x, "s5s3", 6, 999);
        x.year(0, 6, 67);
        dealt(x, "s5s3t00", 6, -999);
        dealt(x, "t00s5s3", 6, -999);
        x.year(0, 6, 66);
        dealt(x, "t00s5s3", 6, -998);
    }

    /** The fourth differences of 99 and -99 by turns would be 1584. */
    static void promise6DifferencesAreHeld() {
        RoundRows x = new RoundRows();
        Check.put(x, 0, 99, -99, 99, -99, 99, -99, 99);
        dealt(x, "ddd", 3, -792);
        dealt(x, "ddd", 4, 792);
        dealt(x, "dddd", 4, 999);
        dealt(x, "dddd", 5, -999);
    }

    /** "each time": what was held is worked on as held. */
    static void promise6HeldEachTime() {
        RoundRows x = new RoundRows();
        Check.put(x, 0, 99, 99, 99, 99, 99, 99, 99, -99);
        // 1485 and 1287, both held, are alike.
        dealt(x, "s5s3d", 7, 0);
        dealt(x, "t00s5s3d", 7, 0);
    }

    /** A sum is held when it is whole: added from either end, 999 and 999 may be more on the way. */
    static void promise6HeldWhenTheSumIsWhole() {
        RoundRows x = new RoundRows();
        Check.put(x, 0, 99, -99, 99, -99, 99, -99, 99, -99);
        int[] want = {999, 999, -999, -999};
        for (int i = 0; i < 4; i++) {
            dealt(x, "ddddt05t07", 4 + i, want[i]);
        }
        dealt(x, "ddddt05t07s4", 7, 0);
    }

    static void promise6WorkedFromTheLeft() {
        RoundRows x = new RoundRows();
        Check.put(x, 0, 1, 2, 3);
        dealt(x, "c0101l1", 2, 2);
        dealt(x, "l1c0101", 2, GAP);
        dealt(x, "l1c0101", 1, 1);
    }

    static void promise6TwentySigns() {
        RoundRows x = new RoundRows();
        Check.put(x, 0, 1, 2);
        dealt(x, "l1l1l1l1l1l1l1l1l1l1", 10, 1);
        dealt(x, "l1l1l1l1l1l1l1l1l1l1", 11, 2);
        dealt(x, "l1l1l1l1l1l1l1l1l1l9", 18, 1);
        for (int year = 0; year < 24; year++) {
            x.year(0, year, year);
        }
        dealt(x, "dddddddddddddddddddd", 19, GAP);
        dealt(x, "dddddddddddddddddddd", 20, 0);
    }

    static void promise6TheRowItselfStays() {
        RoundRows x = Edge.used();
        due("dealt(0, 1)", x.dealt(0, 1), 6);
        due("and again", x.dealt(0, 1), 6);
        due("year(0, 1, 5)", x.year(0, 1, 5), 5);
    }

    static void promise6AskingChangesNothing() {
        Edge.onlyAsks("dealt(0, 1)", x -> x.dealt(0, 1));
    }

    static void promise6RowTooSmallOrTooLarge() {
        Edge.refused("dealt(-1, 0)", x -> x.dealt(-1, 0), GAP - 1);
        Edge.refused("dealt(6, 0)", x -> x.dealt(6, 0), GAP - 1);
    }

    static void promise6YearTooSmallOrTooLarge() {
        Edge.refused("dealt(0, -1)", x -> x.dealt(0, -1), GAP - 2);
        Edge.refused("dealt(0, 24)", x -> x.dealt(0, 24), GAP - 2);
    }

    static void promise6AFaultIsNo() {
        Edge.refused("dealt(0, 0), a fault", Edge::faulty, x -> x.dealt(0, 0), GAP - 5);
        Edge.refused("dealt(5, 23), a fault", Edge::faulty, x -> x.dealt(5, 23), GAP - 5);
    }

    static void promise6AFaultForMoreMustComeIsNo() {
        RoundRows x = new RoundRows();
        Check.put(x, 0, 1, 2);
        dealt(x, "s", 1, GAP - 5);
        dealt(x, "ds", 1, GAP - 5);
        dealt(x, "c000", 1, GAP - 5);
        dealt(x, "c0001", 1, 2);
    }

    static void promise6TheFirstRefusalThatFits() {
        Edge.refused("dealt(6, 24), a fault", Edge::faulty, x -> x.dealt(6, 24), GAP - 1);
        Edge.refused("dealt(0, 24), a fault", Edge::faulty, x -> x.dealt(0, 24), GAP - 2);
        Edge.refused("dealt(6, 0), a fault", Edge::faulty, x -> x.dealt(6, 0), GAP - 1);
    }

    static void promise6FarNumbers() {
        for (int far : Edge.FAR) {
            Edge.refused("row " + far, x -> x.dealt(far, 0), GAP - 1);
            Edge.refused("year " + far, x -> x.dealt(0, far), GAP - 2);
        }
    }
}
