/** Counts answers that are not as due, and ends the test with exit code 1 if there was one. */
final class Check {
    // No test takes a tenth of it: a call that does not end must fail, too.
    private static final long MOST_MILLISECONDS = 300000;

    private final String name;
    private String test = "";
    private int asked = 0;
    private int wrong = 0;

    Check(String name) {
        this.name = name;
        Thread watch = new Thread(this::failInTheEnd);
        watch.setDaemon(true);
        watch.start();
    }

    private void failInTheEnd() {
        try {
            Thread.sleep(MOST_MILLISECONDS);
        } catch (InterruptedException e) {
            return;
        }
        System.out.println(name + ": " + test + "no end after " + MOST_MILLISECONDS + " milliseconds");
        Runtime.getRuntime().halt(1);
    }

    /** Answers that are not as due are told with this name from here on. */
    void begin(String name) {
        test = name + ": ";
    }

    int asked() {
        return asked;
    }

    void due(String call, long got, long want) {
        asked++;
        if (got != want) {
            wrong++;
            if (wrong <= 40) {
                System.out.println(name + ": " + test + call + " answered " + got + ", due is " + want);
            }
        }
    }

    void holds(String what, boolean is) {
        due(what, is ? 1 : 0, 1);
    }

    void end() {
        System.out.println(name + ": " + asked + " answers, " + wrong + " not as due");
        if (wrong != 0 || asked == 0) {
            System.exit(1);
        }
    }

    /** Puts numbers from year 0 on. */
    static void put(RoundRows x, int row, int... numbers) {
        for (int year = 0; year < numbers.length; year++) {
            x.year(row, year, numbers[year]);
        }
    }

    /** Puts a text on an empty pad. */
    static void pad(RoundRows x, String text) {
        x.wipe();
        for (int i = 0; i < text.length(); i++) {
            x.say(text.charAt(i));
        }
    }
}
