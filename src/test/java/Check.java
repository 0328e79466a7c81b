/** Counts answers that are not as due, and ends the test with exit code 1 if there was one. */
final class Check {
    private final String name;
    private String test = "";
    private int asked = 0;
    private int wrong = 0;

    Check(String name) {
        this.name = name;
    }

    /** Answers that are not as due are told with this name from here on. */
    void begin(String name) {
        test = name + ": ";
    }

    int asked() {
        return asked;
    }

    void due(String call, long got, long want) {
        asked++;
        if (got != want) {
            wrong++;
            if (wrong <= 40) {
                System.out.println(name + ": " + test + call + " answered " + got + ", due is " + want);
            }
        }
    }

    void holds(String what, boolean is) {
        due(what, is ? 1 : 0, 1);
    }

    void end() {
        System.out.println(name + ": " + asked + " answers, " + wrong + " not as due");
        if (wrong != 0 || asked == 0) {
            System.exit(1);
        }
    }

    /** Puts numbers from year 0 on. */
    static void put(RoundRows x, int row, int... numbers) {
        for (int year = 0; year < numbers.length; year++) {
            x.year(row, year, numbers[year]);
        }
    }

    /** Puts a text on an empty pad. */
    static void pad(RoundRows x, String text) {
        x.wipe();
        for (int i = 0; i < text.length(); i++) {
            x.say(text.charAt(i));
        }
    }
}
