/** Compares answers with those that are due, prints each that differs, and ends the test's program. */
final class Check {
    private int asked = 0;
    private int wrong = 0;
    /** The document's sentence that what follows is about. */
    private String sentence = "";

    /** All that is due from here on is due by this sentence of the document. */
    void by(String words) {
        sentence = words + ": ";
    }

    void due(String call, long got, long want) {
        asked++;
        if (got != want) {
            wrong++;
            System.out.println(sentence + call + " answered " + got + ", due is " + want);
        }
    }

    /** Prints the outcome; ends the program with exit code 1 if an answer was wrong. */
    void end() {
        System.out.println(asked + " answers, " + wrong + " of them wrong");
        if (wrong != 0 || asked == 0) {
            System.exit(1);
        }
    }

    /** Feeds a whole text, then takes it as a PASS: what col() answers. */
    static int col(ThawGives x, String text) {
        feed(x, text);
        return x.col();
    }

    static void feed(ThawGives x, String text) {
        for (int i = 0; i < text.length(); i++) {
            x.feed(text.charAt(i));
        }
    }

    /** WEEKS go, however many there are to be. */
    static void pass(ThawGives x, int weeks) {
        for (int left = weeks; left > 0; left -= 60) {
            x.pass(Math.min(left, 60));
        }
    }
}
