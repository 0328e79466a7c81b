/** Promises 16 to 27: trials, what is printed, the club, judges, told. */
public final class TrialsTest {
    private static final int GAP = RoundRows.GAP;
    private static final long LOST = RoundRows.LOST;
    private static final Check check = new Check("TrialsTest");

    public static void main(String[] args) {
        trials();
        trialRefused();
        ofTrials();
        prints();
        leans();
        readsAndBar();
        clubs();
        leasts();
        leastLooksAtTwelve();
        leastRefused();
        truths();
        goods();
        bests();
        tolds();
        check.end();
    }

    /** An object whose trials have these percents, of 0, 50, 100 and 16. */
    private static RoundRows with(int... percents) {
        RoundRows x = new RoundRows();
        Check.put(x, 0, 1, 5, 1, 5);
        Check.put(x, 1, 1, 2, 2, 1);
        Check.put(x, 2, 9, 1, 9, 2, 9);
        Check.put(x, 3, 0, 2, 2, 4);
        for (int percent : percents) {
            if (percent == 100) {
                x.trial(0, 2);
            } else if (percent == 0) {
                x.trial(1, 2);
            } else if (percent == 16) {
                x.trial(2, 3);
            } else {
                x.trial(3, 2);
            }
        }
        for (int trial = 0; trial < percents.length; trial++) {
            check.due("percent of " + trial, x.of(trial, 2), percents[trial]);
        }
        return x;
    }

    private static void trials() {
        RoundRows x = new RoundRows();
        Check.put(x, 3, 1, 2, 3, 5);
        check.due("first", x.trial(3, 2), 0);
        check.due("9 by 35", x.of(0, 2), 25);
        Check.pad(x, "d");
        check.due("second", x.trial(3, 2), 1);
        check.due("1 by 4", x.of(1, 2), 25);
        check.due("the pad stays", x.wipe(), 1);
        check.due("third", x.trial(3, 3), 2);
        check.due("3 by 35", x.of(2, 2), 8);
        check.due("without numbers", x.trial(5, 12), 3);
        check.due("none of it", x.of(3, 2), 0);
        x.year(3, 0, 50);
        Check.pad(x, "?");
        check.due("as then", x.of(0, 2), 25);
        check.due("its number", x.told(1), 4);
    }

    private static void trialRefused() {
        RoundRows x = new RoundRows();
        check.due("row", x.trial(6, 2), -1);
        check.due("row -1", x.trial(-1, 0), -1);
        check.due("length 1", x.trial(0, 1), -2);
        check.due("length 13", x.trial(0, 13), -2);
        Check.pad(x, "t");
        check.due("fault", x.trial(0, 2), -5);
        check.due("none was made", x.told(1), 0);
        x.wipe();
        for (int i = 0; i < 20; i++) {
            check.due("trial", x.trial(i % 6, 2 + i % 11), i);
        }
        check.due("full", x.trial(0, 2), -4);
        check.due("outside, full", x.trial(0, 13), -2);
        check.due("unknown, full", x.trial(6, 2), -1);
        Check.pad(x, "t");
        check.due("a fault ahead of full", x.trial(0, 2), -5);
        for (int i = 0; i < 20; i++) {
            check.due("row of " + i, x.of(i, 0), i % 6);
            check.due("length of " + i, x.of(i, 1), 2 + i % 11);
        }
        check.due("twenty", x.told(1), 20);
        check.due("no 21st", x.of(20, 0), -1);
    }

    private static void ofTrials() {
        RoundRows x = with(100, 50);
        check.due("row", x.of(1, 0), 3);
        check.due("length", x.of(1, 1), 2);
        check.due("percent", x.of(1, 2), 50);
        check.due("printed", x.of(1, 3), 0);
        x.print(1, true);
        check.due("printed now", x.of(1, 3), 1);
        check.due("the other not", x.of(0, 3), 0);
        check.due("no trial", x.of(2, 0), -1);
        check.due("trial -1", x.of(-1, 0), -1);
        check.due("no trial, outside", x.of(2, 4), -1);
        check.due("what 4", x.of(1, 4), -2);
        check.due("what -1", x.of(1, -1), -2);
    }

    private static void prints() {
        RoundRows x = with(100, 50, 0);
        check.due("not", x.print(0, false), 0);
        check.due("was not", x.print(0, true), 0);
        check.due("was", x.print(0, true), 1);
        check.due("third", x.print(2, true), 0);
        check.due("bits", x.told(2), 5);
        check.due("was, taken back", x.print(0, false), 1);
        check.due("was not any more", x.print(0, false), 0);
        check.due("bits", x.told(2), 4);
        check.due("unknown", x.print(3, true), -1);
        check.due("unknown -1", x.print(-1, true), -1);
        check.due("unknown 32", x.print(32, true), -1);
        check.due("nothing changed", x.told(2), 4);
    }

    private static void leans(RoundRows x, long upper, long lower) {
        check.due("lean(0)", x.lean(0), upper);
        check.due("lean(1)", x.lean(1), lower);
    }

    private static void leans() {
        RoundRows x = with(100, 50, 0, 16);
        check.due("none printed", x.lean(0), LOST - 3);
        check.due("outside, none printed", x.lean(2), LOST - 2);
        check.due("part -1", x.lean(-1), LOST - 2);
        check.due("none at all", new RoundRows().lean(1), LOST - 3);
        x.print(0, true);
        // 100 less 166 by 4
        leans(x, 117, 2);
        x.print(3, true);
        // 58 less 41.5
        leans(x, 33, 2);
        x.print(0, false);
        leans(x, -51, 2);
        x.print(2, true);
        leans(x, -67, 2);
        x.print(1, true);
        // 66 by 3 less 83 by 2
        leans(x, -39, 2);
        x.print(0, true);
        leans(x, 0, 1);
        RoundRows y = with(0, 0);
        y.print(0, true);
        leans(y, 0, 1);
        RoundRows z = with(100, 0, 0);
        z.print(1, true);
        leans(z, -100, 3);
        RoundRows near = with();
        near.trial(2, 2);
        near.trial(2, 4);
        check.due("all but one", near.of(0, 2), 99);
        near.print(0, true);
        leans(near, -1, 2);
        RoundRows full = with(100, 0, 0, 0, 0, 0, 0, 0, 0, 0, 0, 0, 0, 0, 0, 0, 0, 0, 0, 50);
        full.print(19, true);
        leans(full, 85, 2);
        check.due("of twenty", full.good(50), -2);
        full.truth(1 << 19);
        full.reads(4, 1 << 19);
        check.due("of twenty", full.best(0), 1);
        check.due("of twenty", full.club(), 16);
        check.due("of twenty", full.told(2), 1 << 19);
    }

    private static void readsAndBar() {
        RoundRows x = new RoundRows();
        check.due("first", x.reads(7, 1048575), 0);
        check.due("which they were", x.reads(7, 0), 1048575);
        check.due("none", x.reads(7, 5), 0);
        check.due("another man", x.reads(0, 1), 0);
        check.due("man 8", x.reads(8, 0), -1);
        check.due("man -1", x.reads(-1, -1), -1);
        check.due("above", x.reads(7, 1048576), -2);
        check.due("below", x.reads(7, -1), -2);
        check.due("nothing changed", x.reads(7, 0), 5);
        check.due("bar", x.bar(0), 50);
        check.due("bar 0", x.bar(100), 0);
        check.due("bar 101", x.bar(101), -2);
        check.due("bar -1", x.bar(-1), -2);
        check.due("bar 100", x.bar(7), 100);
        check.due("told", x.told(3), 7);
    }

    private static void clubs() {
        RoundRows x = with(100, 50, 0, 16);
        x.reads(0, 15);
        x.reads(1, 1);
        x.reads(2, 2);
        x.reads(3, 3);
        x.reads(5, 12);
        x.reads(7, 7 + 16 + (1 << 19));
        check.due("nothing is printed", x.club(), 0);
        x.print(0, true);
        check.due("one is", x.club(), 1 + 2 + 8 + 128);
        x.print(2, true);
        check.due("as many is not more", x.club(), 2 + 8);
        x.print(1, true);
        check.due("bar 50: 50 is enough", x.club(), 1 + 2 + 4 + 8 + 128);
        x.bar(51);
        check.due("bar 51", x.club(), 2);
        x.bar(0);
        check.due("bar 0", x.club(), 1 + 2 + 4 + 8 + 32 + 128);
        x.bar(100);
        x.print(1, false);
        check.due("bar 100", x.club(), 2 + 8);
        x.reads(6, 16);
        x.trial(0, 2);
        x.print(4, true);
        check.due("a trial that came later is read", x.club() & 64, 64);
    }

    private static void least(RoundRows x, int men, int bits) {
        check.due("least(" + men + ", 0)", x.least(men, 0), bits);
        check.due("least(" + men + ", 1)", x.least(men, 1), Integer.bitCount(bits));
    }

    private static void leasts() {
        RoundRows x = with(100, 100, 0, 16, 0, 100);
        least(x, 0, 0);
        least(x, 255, 0);
        x.reads(0, 63);
        x.reads(1, 2 + 8 + 16);
        x.reads(2, 1 + 4);
        x.reads(3, 32 + 1);
        x.print(0, true);
        x.print(1, true);
        // Man 0 has two above none: two low ones; the least: 2 and 3.
        least(x, 1, 4 + 8);
        // Man 1 has one: 3 alone, or 4.
        least(x, 2, 8);
        // Man 2: 2.
        least(x, 4, 4);
        least(x, 2 + 4, 4 + 8);
        least(x, 1 + 2 + 4, 4 + 8);
        least(x, 16, 0);
        // Man 3 reads one high one more, no low one.
        check.due("nothing does", x.least(8, 0), -5);
        check.due("nothing does", x.least(8, 1), -5);
        check.due("nothing does for all", x.least(255, 1), -5);
        check.due("it prints nothing", x.told(2), 3);
        x.print(2, true);
        least(x, 1, 8);
        least(x, 4, 0);
        x.print(3, true);
        x.print(4, true);
        least(x, 1, 0);
        x.print(5, true);
        check.due("three of each", x.club() & 1, 0);
        x.print(4, false);
        least(x, 1, 16);
        // The fewest, not the least as bits: 0 high; 1, 2 each for one man, 3 for both.
        RoundRows y = with(100, 0, 0, 0);
        y.reads(0, 1 + 2 + 8);
        y.reads(1, 1 + 4 + 8);
        y.print(0, true);
        least(y, 3, 8);
        least(y, 1, 2);
        least(y, 2, 4);
        // Trial 0 is looked at, too; a trial that does not exist is not.
        RoundRows w = with(0, 100, 100);
        w.print(1, true);
        w.reads(0, 3);
        w.reads(1, 2 + 8 + (1 << 19));
        least(w, 1, 1);
        check.due("no such trial to print", w.least(2, 0), -5);
        // A man who is not told of does not count.
        RoundRows z = with(100, 100, 0);
        z.reads(0, 1 + 4);
        z.reads(1, 2);
        z.bar(17);
        z.print(0, true);
        least(z, 3, 4);
    }

    private static void leastLooksAtTwelve() {
        RoundRows x = with(100, 16, 16, 16, 16, 16, 16, 16, 16, 16, 16, 16, 16, 16, 16);
        x.print(0, true);
        x.print(2, true);
        // Not printed: 1, 3 to 14; looked at: 1, 3 to 13.
        x.reads(0, 1 + (1 << 13));
        x.reads(1, 1 + (1 << 14));
        least(x, 1, 1 << 13);
        check.due("14 is not looked at", x.least(2, 0), -5);
        x.print(2, false);
        check.due("now 13 is not", x.least(1, 0), -5);
        x.print(2, true);
        x.print(1, true);
        least(x, 2, 1 << 14);
        RoundRows y = with(100, 100, 100, 100, 100, 100, 100, 100, 0, 0, 0, 0, 0, 0, 0, 0, 0, 0, 0, 0);
        for (int trial = 0; trial < 8; trial++) {
            y.print(trial, true);
        }
        y.reads(0, 1048575);
        least(y, 1, 0xff00);
    }

    private static void leastRefused() {
        RoundRows x = new RoundRows();
        check.due("men -1", x.least(-1, 0), -2);
        check.due("men 256", x.least(256, 0), -2);
        check.due("what 2", x.least(0, 2), -2);
        check.due("what -1", x.least(0, -1), -2);
        check.due("none at all", x.least(255, 0), 0);
    }

    private static void truths() {
        RoundRows x = new RoundRows();
        check.due("first", x.truth(1048575), 0);
        check.due("there are none", x.told(4), 0);
        x.trial(0, 2);
        x.trial(0, 2);
        check.due("there are two", x.told(4), 3);
        check.due("above", x.truth(1048576), -2);
        check.due("below", x.truth(-1), -2);
        check.due("which they were", x.truth(6), 1048575);
        check.due("of those that there are", x.told(4), 2);
        check.due("as they were told", x.truth(0), 6);
    }

    private static void goods() {
        RoundRows x = with(100, 50, 0, 16);
        check.due("none are true", x.good(0), -4);
        x.truth(1 + 4 + 32);
        check.due("all kept", x.good(0), 0);
        check.due("but 0", x.good(1), -1);
        check.due("16 is kept", x.good(16), -1);
        check.due("17", x.good(17), 0);
        check.due("50", x.good(50), 0);
        check.due("51", x.good(51), 1);
        check.due("100", x.good(100), 1);
        check.due("101", x.good(101), 0);
        check.due("102", x.good(102), GAP - 2);
        check.due("-1", x.good(-1), GAP - 2);
        check.due("no trials", new RoundRows().good(0), 0);
    }

    private static void bests() {
        RoundRows x = with(100, 50, 0, 16);
        check.due("nothing kept is best", x.best(0), 101);
        check.due("nothing", x.best(1), 0);
        x.truth(1 + 4);
        check.due("the least p", x.best(0), 51);
        check.due("its good", x.best(1), 1);
        x.truth(2 + 8);
        check.due("from 1 on", x.best(0), 1);
        check.due("its good", x.best(1), 1);
        x.truth(15);
        check.due("all", x.best(0), 0);
        check.due("its good", x.best(1), 4);
        x.truth(1);
        check.due("one", x.best(0), 51);
        check.due("what 2", x.best(2), GAP - 2);
        check.due("what -1", x.best(-1), GAP - 2);
        check.due("no trials", new RoundRows().best(0), 0);
        check.due("no trials", new RoundRows().best(1), 0);
    }

    private static void tolds() {
        RoundRows x = with(100, 50);
        check.due("row 0", x.told(10), 4);
        check.due("row 2", x.told(12), 5);
        check.due("row 5", x.told(15), 0);
        x.year(5, 23, 0);
        check.due("a 0 is a number", x.told(15), 1);
        x.year(5, 23, GAP);
        check.due("GAP is none", x.told(15), 0);
        Check.pad(x, "c0000?");
        check.due("of the row, not of the dealt one", x.told(10), 4);
        check.due("signs", x.told(0), 6);
        check.due("trials", x.told(1), 2);
        x.print(1, true);
        check.due("printed", x.told(2), 2);
        check.due("bar", x.told(3), 50);
        x.truth(7);
        check.due("true", x.told(4), 3);
        for (int what : new int[] {-1, 5, 9, 16, Integer.MIN_VALUE, Integer.MAX_VALUE, Integer.MIN_VALUE + 10}) {
            check.due("told(" + what + ")", x.told(what), -2);
        }
    }
}
