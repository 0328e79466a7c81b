import java.util.Random;

/** Long runs of calls, the same on RoundRows and on its slow twin. */
public final class ModelTest {
    private static final int[] ODD = {-1, 0, 1, 2, 24, 101, 1000001, Integer.MIN_VALUE, Integer.MAX_VALUE};
    private static final int RUNS = 240;
    private static final int CALLS = 512;
    private static final Check check = new Check("ModelTest");

    private final Random random;
    private final RoundRows x = new RoundRows();
    private final Model m = new Model();
    private final int most;

    private ModelTest(int run) {
        random = new Random(run);
        most = new int[] {1, 3, 9, 99}[run % 4];
    }

    public static void main(String[] args) {
        for (int run = 0; run < RUNS; run++) {
            new ModelTest(run).run(run);
        }
        check.end();
    }

    private void run(int run) {
        int filled = run % 5 == 4 ? 24 : run % 24;
        int calls = 0;
        for (int i = 0; i < filled && calls < CALLS; i++) {
            for (int row = 0; row < 2 + run % 5 && row < 6; row++) {
                int year = run % 5 == 4 ? i : random.nextInt(24);
                int v = number();
                due("year(" + row + ", " + year + ", " + v + ")", x.year(row, year, v), m.year(row, year, v));
                calls++;
            }
        }
        for (; calls < CALLS; calls++) {
            call();
        }
    }

    private void due(String call, long got, long want) {
        check.due(call, got, want);
    }

    /** A number from one to another; now and then one that is not. */
    private int any(int from, int to) {
        int dice = random.nextInt(60);
        if (dice == 0) {
            return ODD[random.nextInt(ODD.length)];
        }
        if (dice == 1) {
            return random.nextBoolean() ? from - 1 : to + 1;
        }
        return from + random.nextInt(to - from + 1);
    }

    private int number() {
        return random.nextInt(12) == 0 ? Model.GAP : any(-most, most);
    }

    private int sign() {
        String likely = "dsltc000111222233445";
        return random.nextInt(8) == 0 ? any(33, 126) : likely.charAt(random.nextInt(likely.length()));
    }

    private void say(int sign) {
        due("say(" + sign + ")", x.say(sign), m.say(sign));
        due("fault()", x.fault(), m.fault());
    }

    /** Mostly texts without a fault, so that the other calls have something to do. */
    private void text() {
        due("wipe()", x.wipe(), m.wipe());
        int parts = random.nextInt(5);
        for (int i = 0; i < parts; i++) {
            int from = random.nextInt(24);
            int till = from + random.nextInt(24 - from);
            String part = switch (random.nextInt(5)) {
                case 0 -> "s" + (2 + random.nextInt(4));
                case 1 -> "l" + (1 + random.nextInt(9));
                case 2 -> String.format("t%02d", from);
                case 3 -> String.format("c%02d%02d", from, till);
                default -> "d";
            };
            for (int j = 0; j < part.length(); j++) {
                say(part.charAt(j));
            }
        }
    }

    private void call() {
        int a = any(0, 5);
        int b = any(0, 5);
        int length = any(2, 12);
        int part = any(0, 1);
        int y = any(4, 22);
        int k = any(0, 23);
        switch (random.nextInt(36)) {
            case 0, 1, 2 -> {
                int v = number();
                due("year", x.year(a, k, v), m.year(a, k, v));
            }
            case 3 -> say(sign());
            case 4 -> due("wipe", x.wipe(), m.wipe());
            case 5 -> text();
            case 6, 7 -> due("dealt", x.dealt(a, k), m.dealt(a, k));
            case 8, 9 -> due("share", x.share(a, length, part), m.share(a, length, part));
            case 10, 11 -> shortRow(a, length, part);
            case 12 -> {
                int n = any(1, 100);
                int seed = any(1, 1000000);
                due("drawn", x.drawn(a, length, n, seed), m.drawn(a, length, n, seed));
            }
            case 13, 14 -> due("together", x.together(a, b, k, part), m.together(a, b, k, part));
            case 15 -> due("go", x.go(a, b), m.go(a, b));
            case 16 -> {
                int n = any(3, 12);
                int over = any(1, 5);
                due("waves", x.waves(n, over, part), m.waves(n, over, part));
            }
            case 17, 18 -> {
                int what = any(0, 2);
                due("found", x.found(a, y, what), m.found(a, y, what));
            }
            case 19 -> due("luck", x.luck(a, y, part), m.luck(a, y, part));
            default -> callOfTrials(a, length, part);
        }
    }

    /** Odds and tried: the twin is too slow for many numbers at every call. */
    private void shortRow(int row, int length, int part) {
        int known = Math.floorMod(row, 6);
        int numbers = m.told(10 + known);
        if (numbers > 5 && random.nextInt(20) != 0) {
            for (int year = 0; year < 24; year++) {
                if (random.nextInt(numbers) > 3) {
                    due("year", x.year(known, year, Model.GAP), m.year(known, year, Model.GAP));
                }
            }
        }
        due("odds", x.odds(row, length, part), m.odds(row, length, part));
        int to = Math.min(13, length + any(0, 3));
        due("tried", x.tried(row, length, to, part), m.tried(row, length, to, part));
    }

    private void callOfTrials(int row, int length, int part) {
        int trial = any(0, 19);
        int man = any(0, 7);
        switch (random.nextInt(13)) {
            case 0 -> due("trial", x.trial(row, length), m.trial(row, length));
            case 1 -> {
                int what = any(0, 3);
                due("of", x.of(trial, what), m.of(trial, what));
            }
            case 2, 3 -> {
                boolean is = random.nextInt(3) != 0;
                due("print", x.print(trial, is), m.print(trial, is));
            }
            case 4 -> due("lean", x.lean(part), m.lean(part));
            case 5, 6 -> {
                int bits = any(0, 1048575);
                due("reads", x.reads(man, bits), m.reads(man, bits));
            }
            case 7 -> {
                int v = any(0, 100);
                due("bar", x.bar(v), m.bar(v));
            }
            case 8 -> due("club", x.club(), m.club());
            case 9 -> {
                int men = random.nextBoolean() ? 1 << random.nextInt(8) : any(0, 255);
                int what = any(0, 1);
                due("least", x.least(men, what), m.least(men, what));
            }
            case 10 -> {
                int bits = any(0, 1048575);
                due("truth", x.truth(bits), m.truth(bits));
            }
            case 11 -> {
                int p = any(0, 101);
                due("good", x.good(p), m.good(p));
                due("best", x.best(part), m.best(part));
            }
            default -> {
                int what = random.nextBoolean() ? any(0, 4) : any(10, 15);
                due("told", x.told(what), m.told(what));
            }
        }
    }
}
