/** What the tests share: a tally of answers that are not as due, and short ways to tell a text. */
final class Checks {
    private int asked;
    private int wrong;

    void due(String call, long got, long want) {
        asked++;
        if (got != want) {
            wrong++;
            System.out.println(call + " answered " + got + ", due is " + want);
        }
    }

    /** Ends the test: with exit code 1 if an answer was not as due. */
    void end(String name) {
        System.out.println(name + ": " + asked + " answers, " + wrong + " not as due");
        if (wrong != 0 || asked == 0) {
            System.exit(1);
        }
    }

    static void write(LateChecks x, String letters) {
        for (int i = 0; i < letters.length(); i++) {
            x.write(letters.charAt(i));
        }
    }

    static int tell(LateChecks x, String letters) {
        x.erase();
        write(x, letters);
        return x.tell();
    }

    /** A new object of which the text has been told; a text with a fault is a mistake of the test. */
    static LateChecks told(String letters) {
        LateChecks x = new LateChecks();
        if (tell(x, letters) < 0) {
            throw new IllegalStateException("a fault in the test's own text: " + letters);
        }
        return x;
    }
}
