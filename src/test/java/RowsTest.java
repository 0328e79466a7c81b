/** Promises 1 to 6: a new object, years, the pad, its fault, rows behind a dealing. */
public final class RowsTest {
    private static final int GAP = RoundRows.GAP;
    private static final Check check = new Check("RowsTest");

    public static void main(String[] args) {
        newObject();
        years();
        sayAndWipe();
        faults();
        faultOfFullPad();
        dealtPlain();
        smooth();
        lag();
        turn();
        cut();
        differences();
        heldEachTime();
        fromTheLeft();
        lastYear();
        dealtRefused();
        check.end();
    }

    private static void newObject() {
        RoundRows x = new RoundRows();
        for (int row = 0; row < 6; row++) {
            check.due("told(" + (10 + row) + ")", x.told(10 + row), 0);
            for (int year = 0; year < 24; year++) {
                check.due("dealt of a new one", x.dealt(row, year), GAP);
            }
        }
        check.due("signs", x.told(0), 0);
        check.due("trials", x.told(1), 0);
        check.due("printed", x.told(2), 0);
        check.due("bar", x.told(3), 50);
        check.due("true", x.told(4), 0);
        check.due("fault", x.fault(), RoundRows.NONE);
        check.due("of", x.of(0, 0), RoundRows.UNKNOWN);
        check.due("club", x.club(), 0);
        check.due("wipe", x.wipe(), 0);
        x.year(2, 5, 7);
        check.due("another object", new RoundRows().told(12), 0);
    }

    private static void years() {
        RoundRows x = new RoundRows();
        check.due("first", x.year(0, 0, -99), GAP);
        check.due("least", x.year(0, 0, 99), -99);
        check.due("most", x.year(0, 0, 0), 99);
        check.due("zero", x.year(0, 0, GAP), 0);
        check.due("none", x.year(0, 0, GAP), GAP);
        check.due("last", x.year(5, 23, 1), GAP);
        check.due("row -1", x.year(-1, 0, 0), GAP - 1);
        check.due("row 6", x.year(6, 0, 0), GAP - 1);
        check.due("row least", x.year(Integer.MIN_VALUE, 0, 0), GAP - 1);
        check.due("row ahead of all", x.year(6, 24, 100), GAP - 1);
        check.due("year -1", x.year(5, -1, 0), GAP - 2);
        check.due("year 24", x.year(5, 24, 0), GAP - 2);
        check.due("100", x.year(5, 23, 100), GAP - 2);
        check.due("-100", x.year(5, 23, -100), GAP - 2);
        check.due("GAP + 1", x.year(5, 23, GAP + 1), GAP - 2);
        check.due("GAP - 1", x.year(5, 23, GAP - 1), GAP - 2);
        check.due("GAP at a wrong year", x.year(5, 24, GAP), GAP - 2);
        check.due("nothing changed", x.year(5, 23, 2), 1);
        check.due("rows are apart", x.dealt(4, 23), GAP);
        Check.pad(x, "?");
        check.due("a fault is nothing to it", x.year(5, 23, 3), 2);
    }

    private static void sayAndWipe() {
        RoundRows x = new RoundRows();
        check.due("32", x.say(32), RoundRows.OUTSIDE);
        check.due("127", x.say(127), RoundRows.OUTSIDE);
        check.due("-1", x.say(-1), RoundRows.OUTSIDE);
        check.due("356", x.say(356), RoundRows.OUTSIDE);
        check.due("33", x.say(33), 1);
        check.due("126", x.say(126), 2);
        for (int i = 3; i <= 20; i++) {
            check.due("sign " + i, x.say('d'), i);
        }
        check.due("full", x.say('d'), RoundRows.FULL);
        check.due("outside, full too", x.say(32), RoundRows.OUTSIDE);
        check.due("signs", x.told(0), 20);
        check.due("wipe", x.wipe(), 20);
        check.due("wipe again", x.wipe(), 0);
        check.due("fault of none", x.fault(), RoundRows.NONE);
        check.due("from the first on", x.say('d'), 1);
        check.due("old signs are gone", x.fault(), RoundRows.NONE);
    }

    private static void fault(String text, int want) {
        RoundRows x = new RoundRows();
        Check.pad(x, text);
        check.due("fault of '" + text + "'", x.fault(), want);
        check.due("the pad stays", x.told(0), text.length());
    }

    private static void faults() {
        int none = RoundRows.NONE;
        fault("", none);
        for (char sign = 33; sign < 127; sign++) {
            boolean letter = "sltc".indexOf(sign) >= 0;
            fault("" + sign, sign == 'd' ? none : letter ? 1 : 0);
            fault("s" + sign, sign >= '2' && sign <= '5' ? none : 1);
            fault("l" + sign, sign >= '1' && sign <= '9' ? none : 1);
            fault("t" + sign, sign >= '0' && sign <= '2' ? 2 : 1);
            fault("t0" + sign, sign >= '0' && sign <= '9' ? none : 2);
            fault("t1" + sign, sign >= '0' && sign <= '9' ? none : 2);
            fault("t2" + sign, sign >= '0' && sign <= '3' ? none : 2);
            fault("c" + sign, sign >= '0' && sign <= '2' ? 2 : 1);
        }
        for (int from = 0; from < 30; from++) {
            for (int till = 0; till < 30; till++) {
                String text = "dc" + from / 10 + from % 10 + till / 10 + till % 10;
                fault(text, faultOfCut(from, till));
            }
        }
        fault("c2", 2);
        fault("c20", 3);
        fault("c201", 3);
        fault("c1912", 4);
        fault("c191", 4);
        fault("c190", 3);
        fault("c0910", none);
        fault("c230", 3);
        fault("c12d", 3);
        fault("s2s", 3);
        fault("s2l3t04c0105dd", none);
        fault("s2l3t04c0105dds", 15);
        fault("s2l0x", 3);
        fault("S2", 0);
        fault("2", 0);
        fault("d2", 1);
    }

    private static int faultOfCut(int from, int till) {
        if (from > 23) {
            return 3;
        }
        if (till / 10 < from / 10) {
            return 4;
        }
        return till > 23 || till < from ? 5 : RoundRows.NONE;
    }

    private static void faultOfFullPad() {
        fault("ddddddddddddddddddds", 20);
        fault("ddddddddddddddddc012", 20);
        fault("dddddddddddddddd" + "c012", 20);
        fault("ddddddddddddddddc01x", 19);
        fault("dddddddddddddddd" + "dddd", RoundRows.NONE);
        fault("ddddddddddddddd" + "c0123", RoundRows.NONE);
        fault("ddddddddddddddd" + "c0324", 19);
    }

    private static void row(String text, RoundRows x, int... want) {
        Check.pad(x, text);
        for (int year = 0; year < 24; year++) {
            int due = year < want.length ? want[year] : GAP;
            check.due("dealt(0, " + year + ") by '" + text + "'", x.dealt(0, year), due);
        }
    }

    private static void dealtPlain() {
        RoundRows x = new RoundRows();
        Check.put(x, 0, 5, GAP, -3);
        row("", x, 5, GAP, -3);
        check.due("the row stays", x.year(0, 0, 5), 5);
    }

    private static void smooth() {
        RoundRows x = new RoundRows();
        Check.put(x, 0, 1, 2, 4, 8, 16, 32, GAP, 64, 3, 5);
        row("s2", x, GAP, 3, 6, 12, 24, 48, GAP, GAP, 67, 8);
        row("s3", x, GAP, GAP, 7, 14, 28, 56, GAP, GAP, GAP, 72);
        row("s4", x, GAP, GAP, GAP, 15, 30, 60);
        row("s5", x, GAP, GAP, GAP, GAP, 31, 62);
        row("s2s2", x, GAP, GAP, 9, 18, 36, 72, GAP, GAP, GAP, 75);
    }

    private static void lag() {
        RoundRows x = new RoundRows();
        Check.put(x, 0, 7, GAP, 9);
        row("l1", x, GAP, 7, GAP, 9);
        row("l9", x, GAP, GAP, GAP, GAP, GAP, GAP, GAP, GAP, GAP, 7, GAP, 9);
        row("l9l9l5", x, GAP, GAP, GAP, GAP, GAP, GAP, GAP, GAP, GAP, GAP, GAP, GAP,
            GAP, GAP, GAP, GAP, GAP, GAP, GAP, GAP, GAP, GAP, GAP, 7);
        row("l9l9l6", x);
    }

    private static void turn() {
        RoundRows x = new RoundRows();
        Check.put(x, 0, 7, -8, GAP, 9);
        x.year(0, 23, 4);
        Check.pad(x, "t23");
        check.due("last year turned", x.dealt(0, 23), -4);
        check.due("not the others", x.dealt(0, 3), 9);
        x.year(0, 23, GAP);
        row("t00", x, -7, 8, GAP, -9);
        row("t01", x, 7, 8, GAP, -9);
        row("t03", x, 7, -8, GAP, -9);
        row("t00t01", x, -7, -8, GAP, 9);
    }

    private static void cut() {
        RoundRows x = new RoundRows();
        Check.put(x, 0, 1, 2, 3, GAP, 5);
        row("c0023", x, 1, 2, 3, GAP, 5);
        row("c0102", x, GAP, 2, 3);
        row("c0404", x, GAP, GAP, GAP, GAP, 5);
        row("c0523", x);
    }

    private static void differences() {
        RoundRows x = new RoundRows();
        Check.put(x, 0, 1, 4, 2, GAP, 5, -5);
        row("d", x, GAP, 3, -2, GAP, GAP, -10);
        row("dd", x, GAP, GAP, -5);
    }

    /** 5 times 99 is 495, twice that 990, three times 1485: held to 999, before the next is worked. */
    private static void heldEachTime() {
        RoundRows x = new RoundRows();
        Check.put(x, 0, 99, 99, 99, 99, 99, 99, 99, -99);
        row("s5", x, GAP, GAP, GAP, GAP, 495, 495, 495, 297);
        row("s5s2", x, GAP, GAP, GAP, GAP, GAP, 990, 990, 792);
        row("s5s3", x, GAP, GAP, GAP, GAP, GAP, GAP, 999, 999);
        row("s5s3d", x, GAP, GAP, GAP, GAP, GAP, GAP, GAP, 0);
        row("s5s3t00", x, GAP, GAP, GAP, GAP, GAP, GAP, -999, -999);
        row("t00s5s3", x, GAP, GAP, GAP, GAP, GAP, GAP, -999, -999);
        row("t00s5s3s2", x, GAP, GAP, GAP, GAP, GAP, GAP, GAP, -999);
        RoundRows y = new RoundRows();
        Check.put(y, 0, 99, 99, 99, 99, -99, -99, -99, -99);
        row("s4s2d", y, GAP, GAP, GAP, GAP, GAP, -396, -396, -396);
        row("dddd", y, GAP, GAP, GAP, GAP, -198, 594, -594, 198);
        row("ddddd", y, GAP, GAP, GAP, GAP, GAP, 792, -999, 792);
        // A sum is held when it is whole: on the way it may be beyond.
        RoundRows z = new RoundRows();
        Check.put(z, 0, 99, -99, 99, -99, 99, -99, 99, -99);
        row("dddd", z, GAP, GAP, GAP, GAP, 999, -999, 999, -999);
        row("ddddt06s3", z, GAP, GAP, GAP, GAP, GAP, GAP, -999, -999);
    }

    private static void fromTheLeft() {
        RoundRows x = new RoundRows();
        Check.put(x, 0, 1, 2, 3, 4);
        row("c0102s2", x, GAP, GAP, 5);
        row("s2c0102", x, GAP, 3, 5);
        row("t02d", x, GAP, 1, -5, -1);
        row("dt02", x, GAP, 1, -1, -1);
    }

    private static void lastYear() {
        RoundRows x = new RoundRows();
        x.year(0, 21, 1);
        x.year(0, 22, 20);
        x.year(0, 23, 50);
        String[] texts = {"s2", "s3", "s4", "l1", "l2", "l3", "t22", "t23", "d", "c2223", "c2222", "dd"};
        int[] want = {70, 71, GAP, 20, 1, GAP, -50, -50, 30, 50, GAP, 11};
        for (int i = 0; i < texts.length; i++) {
            Check.pad(x, texts[i]);
            check.due("year 23 by " + texts[i], x.dealt(0, 23), want[i]);
        }
    }

    private static void dealtRefused() {
        RoundRows x = new RoundRows();
        check.due("row 6", x.dealt(6, 0), GAP - 1);
        check.due("row -1", x.dealt(-1, 0), GAP - 1);
        check.due("year 24", x.dealt(0, 24), GAP - 2);
        check.due("year -1", x.dealt(0, -1), GAP - 2);
        Check.pad(x, "s");
        check.due("a fault", x.dealt(0, 0), GAP - 5);
        check.due("outside, a fault too", x.dealt(0, 24), GAP - 2);
        check.due("unknown, all too", x.dealt(6, 24), GAP - 1);
    }
}
