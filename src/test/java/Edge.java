import java.util.ArrayList;
import java.util.List;
import java.util.function.Supplier;

/** What the tests of edges share: objects in several states, and calls that are refused. */
final class Edge {
    static final Check check = new Check("EdgesTest");

    // Written out again: a wrong constant in the class is not to hide a wrong answer.
    static final int UNKNOWN = -1;
    static final int OUTSIDE = -2;
    static final int STATE = -3;
    static final int FULL = -4;
    static final int NO = -5;
    static final int NONE = -6;
    static final int GAP = -1000000;
    static final long LOST = -1000000000000000000L;

    /** Outside of all that is told, at the ends of int among them: less or plus a little, they wrap round. */
    static final int[] FAR = {
        Integer.MIN_VALUE, Integer.MIN_VALUE + 1, Integer.MIN_VALUE + 10, -1 << 30, -65536, -256,
        1 << 30, Integer.MAX_VALUE - 1, Integer.MAX_VALUE,
    };

    private Edge() { }

    /** One call, with its answer. */
    interface Call {
        long on(RoundRows x);
    }

    static void due(String call, long got, long want) {
        check.due(call, got, want);
    }

    /** Rows, trials, men and judges are in use; the pad is without a fault. */
    static RoundRows used() {
        RoundRows x = new RoundRows();
        Check.put(x, 0, 1, 5, 1, 5, 2, 4, 4, 2);
        Check.put(x, 1, 9, 1, 9, 2, 9);
        x.year(5, 23, -99);
        x.trial(1, 2);
        x.trial(1, 3);
        x.trial(0, 2);
        x.print(0, true);
        x.reads(0, 7);
        x.reads(7, 1 << 19);
        x.bar(17);
        x.truth(5);
        Check.pad(x, "s2");
        return x;
    }

    /** As used(), but the pad has a fault. */
    static RoundRows faulty() {
        RoundRows x = used();
        x.say('?');
        return x;
    }

    /** As used(), but the pad has twenty signs and the drawer twenty trials. */
    static RoundRows full() {
        RoundRows x = used();
        for (int i = 0; i < 17; i++) {
            x.trial(0, 3);
        }
        Check.pad(x, "l1l1l1l1l1l1l1l1l1l1");
        return x;
    }

    /** As full(), but the pad has a fault, too. */
    static RoundRows fullAndFaulty() {
        RoundRows x = full();
        Check.pad(x, "l1l1l1l1l1l1l1l1l1ll");
        return x;
    }

    /** Trials of these PERCENT, each 0, 16, 50, 99 or 100. */
    static RoundRows withPercents(int... percents) {
        RoundRows x = new RoundRows();
        Check.put(x, 0, 1, 5, 1, 5);
        Check.put(x, 1, 9, 1, 9, 2, 9);
        Check.put(x, 2, 0, 2, 2, 4);
        for (int percent : percents) {
            switch (percent) {
                case 0 -> x.trial(3, 2);
                case 16 -> x.trial(1, 3);
                case 50 -> x.trial(2, 2);
                case 99 -> x.trial(1, 2);
                default -> x.trial(0, 2);
            }
        }
        for (int trial = 0; trial < percents.length; trial++) {
            due("of(" + trial + ", 2)", x.of(trial, 2), percents[trial]);
        }
        return x;
    }

    /** A refused call answers so, and the object is as one that was never asked. */
    static void refused(String call, Supplier<RoundRows> state, Call what, long answer) {
        RoundRows asked = state.get();
        due(call, what.on(asked), answer);
        check.holds(call + " changes nothing", view(asked).equals(view(state.get())));
    }

    static void refused(String call, Call what, long answer) {
        refused(call, Edge::used, what, answer);
    }

    /** A call that is taken, but only asks: the object is as one that was never asked. */
    static void onlyAsks(String call, Call what) {
        RoundRows asked = used();
        long first = what.on(asked);
        due(call + " again", what.on(asked), first);
        check.holds(call + " is taken", first > GAP / 2);
        check.holds(call + " changes nothing", view(asked).equals(view(used())));
    }

    /** All that can be seen of an object, in fewer than 450 calls; the object is of no use behind it. */
    static List<Long> view(RoundRows x) {
        List<Long> seen = new ArrayList<>();
        for (int what = 0; what < 16; what++) {
            seen.add((long) x.told(what));
        }
        seen.add((long) x.fault());
        seen.add((long) x.club());
        seen.add(x.lean(0));
        seen.add(x.lean(1));
        for (int trial = 0; trial < x.told(1); trial++) {
            for (int what = 0; what < 4; what++) {
                seen.add((long) x.of(trial, what));
            }
        }
        for (int year = 0; year < 24; year++) {
            seen.add((long) x.dealt(0, year));
            seen.add((long) x.dealt(5, year));
        }
        seen.add((long) x.wipe());
        for (int row = 0; row < 6; row++) {
            for (int year = 0; year < 24; year++) {
                seen.add((long) x.year(row, year, GAP));
            }
        }
        for (int man = 0; man < 8; man++) {
            seen.add((long) x.reads(man, 0));
        }
        seen.add((long) x.bar(0));
        seen.add((long) x.truth(0));
        return seen;
    }
}
