/** Counts the answers of one test, and tells those that are not due. */
final class Due {
    private int asked = 0;
    private int wrong = 0;

    void is(String call, long got, long want) {
        asked++;
        if (got != want) {
            wrong++;
            System.out.println(call + " answered " + got + ", due is " + want);
        }
    }

    /** Empties the text buffer and types a text. */
    void write(DieLineChecker x, String text) {
        x.clearText();
        for (int i = 0; i < text.length(); i++) {
            is("type of " + text, x.type(text.charAt(i)), i + 1);
        }
    }

    /** Asks for all values of a finding at once: kind, panel, side, other panel, amount. */
    void finding(String what, DieLineChecker x, int number, int... values) {
        for (int i = 0; i < values.length; i++) {
            is(what + ": finding(" + number + ", " + i + ")", x.finding(number, i), values[i]);
        }
    }

    /** Ends the test. */
    void end() {
        System.out.println(asked + " answers, " + wrong + " of them wrong");
        if (wrong != 0 || asked == 0) {
            System.exit(1);
        }
    }
}
