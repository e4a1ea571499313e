/** Counts the answers that are not the ones due, and tells each. */
final class Due {
    private final String test;
    private int asked = 0;
    private int wrong = 0;

    Due(String test) {
        this.test = test;
    }

    void due(String call, long got, long want) {
        asked++;
        if (got != want) {
            wrong++;
            System.out.println(test + ": " + call + " answered " + got + ", due is " + want);
        }
    }

    /** Ends the program, with 1 if an answer was wrong. */
    void end() {
        System.out.println(test + ": " + asked + " answers, " + wrong + " not as due");
        if (wrong != 0 || asked == 0) {
            System.exit(1);
        }
    }

    /** Puts a text into a shelf, as bytes. */
    static void write(SeatsToTheReluctant x, int s, String text) {
        x.row(s, 0, text.length());
        for (int i = 0; i < text.length(); i++) {
            x.set(s, i, text.charAt(i));
        }
    }

    /** Puts numbers into a shelf, as ints. */
    static void put(SeatsToTheReluctant x, int s, int... values) {
        x.row(s, 2, values.length);
        for (int i = 0; i < values.length; i++) {
            x.set(s, i, values[i]);
        }
    }

    /** Fences the squares beside the lamp, so that there is no way to it. */
    static void closeLamp(SeatsToTheReluctant x) {
        x.fence(17, true);
        x.fence(23, true);
        x.fence(25, true);
        x.fence(31, true);
    }
}
