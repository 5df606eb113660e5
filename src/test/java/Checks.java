/** What the tests share: a tally of answers that are not as due, and short ways to tell a text. */
final class Checks {
    private int asked;
    private int wrong;

    void due(String call, long got, long want) {
        asked++;
        if (got != want) {
            wrong++;
            System.out.println(call + " answered " + got + ", due is " + want);
        }
    }

    /** Ends the test: with exit code 1 if an answer was not as due. */
    void end(String name) {
        System.out.println(name + ": " + asked + " answers, " + wrong + " not as due");
        if (wrong != 0 || asked == 0) {
            System.exit(1);
        }
    }

    static void write(LateChecks x, String letters) {
        for (int i = 0; i < letters.length(); i++) {
            x.write(letters.charAt(i));
        }
    }

    static int tell(LateChecks x, String letters) {
        x.erase();
        write(x, letters);
        return x.tell();
    }

    /** A new object of which the text has been told; a text with a fault is a mistake of the test. */
    static LateChecks told(String letters) {
        LateChecks x = new LateChecks();
        if (tell(x, letters) < 0) {
            throw new IllegalStateException("a fault in the test's own text: " + letters);
        }
        return x;
    }

    /** All that can be seen of an object, so that two of them, or two moments of one, can be compared. */
    static String seen(LateChecks x) {
        StringBuilder all = new StringBuilder();
        for (int what = 0; what <= 10; what++) {
            all.append(x.count(what)).append(' ');
        }
        all.append(x.fault()).append('\n');
        for (int i = 0; i < 8; i++) {
            all.append(x.item(i, 0)).append('@').append(x.item(i, 1)).append(' ');
        }
        for (int d = 0; d < 6; d++) {
            seeDeal(x, d, all.append('\n'));
        }
        for (int c = 1; c <= x.count(0); c++) {
            seeCommit(x, c, all.append('\n'));
        }
        return all.toString();
    }

    private static void seeDeal(LateChecks x, int d, StringBuilder all) {
        for (int what = 0; what <= 11; what++) {
            all.append(x.deal(d, what)).append(' ');
        }
        for (int i = 0; i < 8; i++) {
            for (int what = 0; what <= 2; what++) {
                all.append(x.noted(d, i, what)).append(',');
            }
        }
        all.append(x.sent(d)).append(x.ballot(0, d)).append(x.ballot(1, d));
    }

    private static void seeCommit(LateChecks x, int c, StringBuilder all) {
        for (int what = 0; what <= 5; what++) {
            all.append(x.log(c, what)).append(' ');
        }
        for (int i = 0; i < 8; i++) {
            all.append(x.logged(c, i, 0)).append(',').append(x.logged(c, i, 1)).append(' ');
        }
    }
}
