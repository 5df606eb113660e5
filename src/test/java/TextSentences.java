/** The edges of what the Terms say of the text: its length, its clauses, its tokens, its numbers, its faults. */
final class TextSentences {
    private static final String TERMS = "Terms";
    private static final int NONE = LateChecks.NONE;

    private final Book book;

    TextSentences(Book book) {
        this.book = book;
    }

    void all() {
        letters();
        clauses();
        forms();
        asWrittenHere();
        digits();
        blanks();
        refusedClauses();
        allAsAtFirst();
        faults();
        faultsOfLetters();
        order();
    }

    /** The place of the fault, and what tell() answers then: how many clauses, if there is none. */
    private void text(String sentence, String letters, int fault, int clauses) {
        Run run = book.at(TERMS, sentence).write(letters);
        run.does("count 9 = " + letters.length() + ", fault = " + fault + ", tell = " + (fault == NONE ? "" + clauses : "NOT"));
        run.does("count 9 = " + (fault == NONE ? 0 : letters.length()) + ", fault = " + (fault == NONE ? 0 : fault));
    }

    private void good(String sentence, String letters) {
        text(sentence, letters, NONE, letters.split(";").length);
    }

    private void bad(String sentence, String letters, int fault) {
        text(sentence, letters, fault, 0);
    }

    private void letters() {
        String sentence = "THE TEXT is a row of letters, 200 at most";
        Run run = book.at(TERMS, sentence);
        for (int n = 1; n <= 199; n++) {
            run.does("write 32 = " + n);
        }
        run.does("write 32 = 200, write 32 = FULL, count 9 = 200, write 255 = FULL, write 0 = FULL, write 256 = OUTSIDE",
                "write -1 = OUTSIDE");
        run.does("fault = 200, tell = NOT, erase = 200, count 9 = 0, write 97 = 1");
        bad(sentence, "", 0);
        good(sentence, " ".repeat(197) + "all");
        good(sentence, "all" + " ".repeat(197));
        good(sentence, " ".repeat(193) + "limit 9");
        bad(sentence, " ".repeat(194) + "limit ", 200);
        bad(sentence, " ".repeat(199) + "a", 199);
        bad(sentence, "a".repeat(200), 0);
        bad(sentence, "9".repeat(200), 0);
        bad(sentence, ";".repeat(200), 0);
        // letter 201 was not taken: it would have made a good number of a bad one
        book.at(TERMS, sentence).write(" ".repeat(194) + "limit 1").does("count 9 = 200, fault = 200, tell = NOT");
        book.at(TERMS, sentence).write(" ".repeat(193) + "limit 10").does("count 9 = 200, fault = NONE, tell = 1, count 8 = 1");
    }

    private void clauses() {
        String sentence = "THE TEXT is a row of letters, 200 at most";
        String most = "all" + ";all".repeat(23);
        good(sentence, "all");
        good(sentence, "all;all");
        good(sentence, most.substring(4));
        good(sentence, most);
        good(sentence, most + " ");
        good(sentence, "item0 1" + ";item0 1".repeat(23));
        bad(sentence, most + ";", most.length());
        bad(sentence, most + " ; ", most.length() + 1);
        bad(sentence, most + ";all", most.length());
        bad(sentence, most + " all", most.length() + 1);
        bad(sentence, most + ";al", most.length());
        bad(sentence, most.replace("all;all;", "all;bll;") + ";all", 4);
        bad(sentence, ";", 0);
        bad(sentence, ";all", 0);
        bad(sentence, "all;", 4);
        bad(sentence, "all;;all", 4);
        bad(sentence, "all all", 4);
        bad(sentence, "all,all", 3);
        bad(sentence, "all:all", 3);
        // none of 25 is done, all of 24 are
        book.at(TERMS, sentence).write("item0 1" + ";item0 1".repeat(24)).does("tell = NOT, count 0 = 0, count 9 = 199");
        book.at(TERMS, sentence).write("item0 1" + ";item0 2".repeat(23)).does("tell = 24, count 0 = 24, count 9 = 0, item 0 0 = 2");
    }

    /** Each form: its word, no number too few, none too many, each number at its bounds and beyond them. */
    private void forms() {
        String all = "THE TEXT is a row of letters, 200 at most";
        good(all, "all");
        bad(all, "all 0", 4);
        bad(all, "all0", 3);
        form("item I V", "item", 0, 7, 0, 9999);
        form("limit N", "limit", 1, 9);
        form("begin D", "begin", 0, 5);
        form("read D I", "read", 0, 5, 0, 7);
        form("write D I V", "write", 0, 5, 0, 7, 0, 9999);
        form("send D", "send", 0, 5);
        theyAreDone();
    }

    private void form(String sentence, String word, int... bounds) {
        int many = bounds.length / 2;
        String good = word;
        for (int n = 0; n < many; n++) {
            bad(sentence, good, good.length());
            bad(sentence, good + "  ", good.length() + 2);
            bad(sentence, good + ";all", good.length());
            bad(sentence, good + " x", good.length() + 1);
            bad(sentence, good + " -1", good.length() + 1);
            int least = bounds[2 * n];
            int most = bounds[2 * n + 1];
            String rest = rest(bounds, n + 1);
            good(sentence, good + " " + least + rest);
            good(sentence, good + " " + most + rest);
            bad(sentence, good + " " + (most + 1) + rest, good.length() + 1);
            bad(sentence, good + " 99999" + rest, good.length() + 1);
            if (least > 0) {
                bad(sentence, good + " " + (least - 1) + rest, good.length() + 1);
            }
            good = good + " " + most;
        }
        bad(sentence, good + " 0", good.length() + 1);
        bad(sentence, good + " all", good.length() + 1);
        good(sentence, good + ";all");
        bad(sentence, word.substring(1) + good.substring(word.length()), 0);
        bad(sentence, word.substring(0, word.length() - 1) + good.substring(word.length()), 0);
        bad(sentence, word + "s" + good.substring(word.length()), 0);
    }

    private static String rest(int[] bounds, int from) {
        StringBuilder rest = new StringBuilder();
        for (int n = from; n < bounds.length / 2; n++) {
            rest.append(' ').append(bounds[2 * n]);
        }
        return rest.toString();
    }

    /** At its bounds each does what the call of its name does. */
    private void theyAreDone() {
        book.at(TERMS, "item I V").does("text item 0 9999;item 7 0", "tell = 2").row("item 0", 9999, 1).row("item 7", 0, 2)
                .row("log 2", -1, 0, 0, 0, 128, 4);
        book.at(TERMS, "limit N").does("text limit 1", "tell = 1, count 8 = 1", "text limit 9", "tell = 1",
                "count 8 = 9", "text limit 0", "tell = NOT, count 8 = 9");
        book.at(TERMS, "begin D").does("text begin 5;begin 0", "tell = 2, deal 5 2 = 1, deal 0 2 = 2, count 7 = 2, count 1 = 2");
        book.at(TERMS, "read D I").does("put 7 70, begin 5, begin 0", "text read 5 7;read 0 0", "tell = 2, deal 5 4 = 128, deal 0 4 = 1")
                .row("noted 5 7", 70, 1, -1).row("noted 0 0", 0, 0, -1);
        book.at(TERMS, "write D I V").does("begin 5, begin 0", "text write 5 7 9999;write 0 0 0", "tell = 2, deal 5 5 = 128, deal 0 5 = 1")
                .row("noted 5 7", -1, -1, 9999).row("noted 0 0", -1, -1, 0);
        book.at(TERMS, "send D").does("begin 5, begin 0", "text send 5;send 0", "tell = 2, deal 5 11 = 1, deal 0 11 = 2, count 2 = 2");
    }

    private void asWrittenHere() {
        String sentence = "(As written here, without points";
        bad(sentence, "all.", 3);
        bad(sentence, "item 0 1.", 8);
        bad(sentence, "All", 0);
        bad(sentence, "ALL", 0);
        bad(sentence, "item I V", 5);
        bad(sentence, "put 0 1", 0);
        bad(sentence, "lay 0 0 1", 0);
        bad(sentence, "commit 0 0", 0);
        bad(sentence, "retry 0", 0);
        bad(sentence, "abort 0", 0);
        bad(sentence, "sweep", 0);
        bad(sentence, "vote 0", 0);
        bad(sentence, "settle", 0);
        // the letters next to a .. z, and next to 0 .. 9
        bad(sentence, "`ll", 0);
        bad(sentence, "al`", 0);
        bad(sentence, "all`", 3);
        bad(sentence, "all{", 3);
        bad(sentence, "allz", 0);
        bad(sentence, "zall", 0);
        bad(sentence, "alla", 0);
        bad(sentence, "limit /", 6);
        bad(sentence, "limit :", 6);
        bad(sentence, "limit 1/", 7);
        bad(sentence, "limit 1:", 7);
    }

    private void digits() {
        String sentence = "(As written here, without points";
        good(sentence, "item 0 0");
        good(sentence, "item 00 00");
        good(sentence, "item 007 009");
        good(sentence, "item 0007 9999");
        bad(sentence, "item 00007 1", 5);
        bad(sentence, "item 7 00000", 7);
        bad(sentence, "item 7 09999", 7);
        bad(sentence, "item 7 10000", 7);
        // a sum that wraps around would be in the bounds again
        bad(sentence, "item 4294967296 1", 5);
        bad(sentence, "item 0 4294967297", 7);
        bad(sentence, "item 0 18446744073709551617", 7);
        bad(sentence, "limit 4294967299", 6);
        bad(sentence, "begin 0000000000000000000000000000000001", 6);
        book.at(TERMS, sentence).does("text item 0007 0012;limit 0009;begin 0005", "tell = 3, item 7 0 = 12, count 8 = 9, deal 5 0 = 1");
    }

    private void blanks() {
        String sentence = "(As written here, without points";
        good(sentence, "item   0     1");
        good(sentence, "all ;  all");
        good(sentence, " all");
        good(sentence, "all ");
        // a blank is needed where two rows of one kind would be one
        bad(sentence, "item 01", 7);
        bad(sentence, "allall", 0);
        bad(sentence, "a ll", 0);
        bad(sentence, "limit 1 0", 8);
        good(sentence, "item0 1");
        // no other letter is a blank
        for (int letter : new int[] {0, 9, 10, 13, 31, 33, 95, 127, 160, 255}) {
            bad(sentence, "item" + (char) letter + "0 1", 4);
            bad(sentence, "all" + (char) letter, 3);
            bad(sentence, (char) letter + "all", 0);
        }
    }

    /** What would be refused is not done, and the others are. */
    private void refusedClauses() {
        String sentence = "(As written here, without points";
        book.at(TERMS, sentence).does("begin 0, send 0", "text item 0 1;item 7 1;limit 5", "tell = 3, count 0 = 0, item 0 1 = 0",
                "count 8 = 5");
        book.at(TERMS, sentence).does("text begin 0;begin 0;begin 1", "tell = 3, count 7 = 2, deal 0 2 = 1, deal 1 2 = 2");
        book.at(TERMS, sentence).does("text read 0 0;begin 0;read 0 1", "tell = 3, deal 0 4 = 2");
        book.at(TERMS, sentence).does("text write 0 0 1;begin 0;write 0 1 1", "tell = 3, deal 0 5 = 2");
        book.at(TERMS, sentence).does("text send 0;begin 0;send 0;send 0", "tell = 4, deal 0 11 = 1",
                "count 2 = 1", "text begin 1;send 1", "tell = 2, deal 1 11 = 2");
        // doomed ones are not open
        book.at(TERMS, sentence).does("begin 0, begin 1, read 1 0, lay 0 0 1, commit 0 2 = 1", "text begin 1;read 1 3;write 1 3 3;send 1",
                "tell = 4, deal 1 0 = 2, deal 1 4 = 1, deal 1 5 = 0, deal 1 2 = 2, count 7 = 2");
        // a text of which all would be refused
        book.at(TERMS, sentence).does("text read 5 7;send 5", "tell = 2, count 9 = 0, deal 5 0 = 0");
    }

    private void allAsAtFirst() {
        String sentence = "(As written here, without points";
        Run run = book.at(TERMS, sentence).told("item 3 9;limit 7;begin 0;begin 1;read 0 3;write 1 3 3;send 1");
        run.does("vote 0, vote 1, settle = 2, abort 0, retry 0, put 0 5, read 0 0, commit 0 0 = VAIN, begin 5, begin 4, lay 4 0 1",
                "read 5 0, commit 4 2 = YIELDS");
        run.does("text all", "tell = 1");
        String then = run.seen();
        Run fresh = book.at(TERMS, sentence);
        fresh.does("deal 0 0 = 0");
        book.same(sentence + ": seen behind all", then, fresh.seen());
        run.does("log 1 0 = UNKNOWN, retry 0 = NOT, retry 4 = NOT, begin 3 = 1, send 3 = 1");
        // what was logged of before does not come back with the same number
        book.at(TERMS, sentence).does("begin 1, abort 1, retry 1, read 1 0, read 1 7, lay 1 0 5, lay 1 7 7",
                "commit 1 2 = 1", "text all;item 0 9", "tell = 2")
                .row("log 1", -1, 0, 0, 0, 1, 4).row("logged 1 0", -1, 9).row("logged 1 7", -1, -1).does("put 7 1, behind 2 1 = 0");
        // but the text: what stands behind it is done
        book.at(TERMS, sentence).does("text item 0 1;all;item 1 1;limit 4;all;item 2 2", "tell = 6, count 0 = 1, item 0 1 = 0",
                "item 1 1 = 0, item 2 1 = 1, count 8 = 3");
    }

    private void faults() {
        String sentence = "A FAULT is at the first TOKEN";
        bad(sentence, "", 0);
        bad(sentence, " ", 1);
        bad(sentence, "item", 4);
        bad(sentence, "item ", 5);
        bad(sentence, "item 0", 6);
        bad(sentence, "item 0 ", 7);
        bad(sentence, "all;", 4);
        bad(sentence, "all ; ", 6);
        // the token, not the letter in it
        bad(sentence, "alx", 0);
        bad(sentence, "  alx", 2);
        bad(sentence, "all;itemx 0 1", 4);
        bad(sentence, "item 0 12345", 7);
        bad(sentence, "item 0 0x", 8);
        bad(sentence, "item x0 0", 5);
        // the first of several
        bad(sentence, "item 8 10000", 5);
        bad(sentence, "item 0 10000;item 8 1", 7);
        bad(sentence, "begin 6;begin", 6);
        bad(sentence, "limit 3;limit 10;limit 0", 14);
        bad(sentence, "all;all;?;all", 8);
        bad(sentence, "read 0 0;read 6 0;;", 14);
    }

    /** Any other letter is a token of its own, and stands nowhere. */
    private void faultsOfLetters() {
        String sentence = "A FAULT is at the first TOKEN";
        for (int letter = 0; letter <= 255; letter++) {
            boolean small = letter >= 'a' && letter <= 'z';
            boolean digit = letter >= '0' && letter <= '9';
            String one = "" + (char) letter;
            text(sentence, "all" + one, letter == ' ' ? NONE : small ? 0 : letter == ';' ? 4 : 3, 1);
            text(sentence, one + "all", letter == ' ' ? NONE : 0, 1);
            text(sentence, "item 0 " + one, letter == ' ' ? 8 : digit ? NONE : 7, 1);
            text(sentence, "item 0 1" + one, digit || letter == ' ' ? NONE : letter == ';' ? 9 : 8, 1);
            text(sentence, "item" + one + "0 1", letter == ' ' || letter == '0' ? NONE : small ? 0 : 4, 1);
        }
    }

    private void order() {
        String sentence = "CLAUSES are done in their order";
        book.at(TERMS, sentence).does("text item 0 1;item 0 2;item 0 3", "tell = 3").row("item 0", 3, 3)
                .does("logged 1 0 1 = 1, logged 2 0 1 = 2");
        book.at(TERMS, sentence).does("text begin 1;item 0 1;begin 0;read 1 0;item 0 2;read 0 0", "tell = 6, deal 1 2 = 1, deal 1 1 = 0",
                "deal 0 1 = 1")
                .row("noted 1 0", 1, 1, -1).row("noted 0 0", 2, 2, -1);
        book.at(TERMS, sentence).does("text limit 1;limit 2;limit 9", "tell = 3, count 8 = 9");
        book.at(TERMS, sentence).does("text begin 0;write 0 0 1;read 0 0;write 0 0 2;send 0;write 0 0 3;item 0 9", "tell = 7",
                "noted 0 0 2 = 2, deal 0 4 = 0, item 0 1 = 0");
    }
}
