/** The edges that promises 1 to 8 name, but for their refusals. */
final class ToldSentences {
    private final Book book;

    ToldSentences(Book book) {
        this.book = book;
    }

    void all() {
        newObject();
        write();
        erase();
        fault();
        tell();
        item();
        put();
        limit();
    }

    private void newObject() {
        Run run = book.at("1", "All as at first").row("count", 0, 0, 0, 0, 0, 0, 0, 0, 3, 0, 0);
        for (int d = 0; d < 6; d++) {
            run.row("deal " + d, 0, 0, 0, 0, 0, 0, 0, 0, 0, 0, 0, -1);
            for (int i = 0; i < 8; i++) {
                run.row("noted " + d + " " + i, -1, -1, -1);
            }
        }
        for (int i = 0; i < 8; i++) {
            run.row("item " + i, 0, 0);
        }
        run.does("fault = 0, tell = NOT, erase = 0, sweep = 0, settle = NOT, vote 0 = NOT, vote 1 = NOT, sent 0 = UNKNOWN",
                "log 1 0 = UNKNOWN",
                "logged 1 0 0 = UNKNOWN, behind 1 0 = UNKNOWN, behind 2 1 = UNKNOWN, retry 0 = NOT, ballot 0 0 = NOT");
        // objects have nothing in common
        Run other = book.at("1", "All as at first").does("put 0 1 = 1, begin 0 = 1, limit 5 = 3, write 97 = 1");
        book.at("1", "All as at first").does("item 0 0 = 0, count 0 = 0, begin 0 = 1, limit 6 = 3, write 97 = 1");
        other.does("count 8 = 5, item 0 1 = 1, count 9 = 1");
    }

    private void write() {
        String sentence = "A letter (its number, 0 .. 255)";
        book.at("2", sentence).does("write 0 = 1, write 255 = 2, write -1 = OUTSIDE, write 256 = OUTSIDE, count 9 = 2, write 1 = 3",
                "write 254 = 4");
        // cut to a byte, these would be letters
        book.at("2", sentence).does("write 353 = OUTSIDE, write 65633 = OUTSIDE, write -159 = OUTSIDE, write MIN = OUTSIDE",
                "write MAX = OUTSIDE, count 9 = 0");
        Run every = book.at("2", sentence);
        for (int letter = 0; letter < 200; letter++) {
            every.does("write " + letter + " = " + (letter + 1));
        }
        Run rest = book.at("2", sentence);
        for (int letter = 200; letter <= 255; letter++) {
            rest.does("write " + letter + " = " + (letter - 199));
        }
        // the number that it gets is of the text as it is now
        book.at("2", sentence).does("text all", "write 59 = 4, tell = NOT, write 32 = 5, erase = 5, write 97 = 1",
                "erase = 1", "text all", "tell = 1, write 97 = 1");
    }

    private void erase() {
        String sentence = "THE TEXT is empty: how many letters it had";
        book.at("3", sentence).does("erase = 0, erase = 0, write 97 = 1, erase = 1, erase = 0, count 9 = 0, fault = 0");
        book.at("3", sentence).write("x".repeat(200)).does("write 97 = FULL, erase = 200, count 9 = 0, fault = 0, tell = NOT",
                "write 97 = 1");
        book.at("3", sentence).write("x".repeat(199)).does("erase = 199").write(" ".repeat(199))
                .does("write 32 = 200, write 32 = FULL, erase = 200");
        // letters of before do not come back
        book.at("3", sentence).does("text item 0 1111", "erase = 11", "text item 0", "fault = 6, tell = NOT");
        book.at("3", sentence).does("text item 0 1111", "tell = 1", "text item 0", "fault = 6, erase = 6");
        // nothing else is changed
        book.at("3", sentence).does("put 0 1, begin 0, read 0 0, limit 4", "text all", "erase = 3, count 0 = 1, deal 0 4 = 1, count 8 = 4",
                "tell = NOT, count 0 = 1");
    }

    private void fault() {
        String sentence = "The place of the FAULT";
        book.at("4", sentence).does("fault = 0, fault = 0, write 32 = 1, fault = 1");
        book.at("4", sentence).does("text all", "fault = NONE, fault = NONE, count 9 = 3, write 32 = 4, fault = NONE, write 120 = 5",
                "fault = 4, write 120 = 6, fault = 4");
        book.at("4", sentence).write(" ".repeat(200)).does("fault = 200, write 97 = FULL, fault = 200");
        book.at("4", sentence).write(" ".repeat(197) + "all").does("fault = NONE, count 0 = 0, count 9 = 200");
        book.at("4", sentence).write(" ".repeat(196) + "all;").does("fault = 200");
        book.at("4", sentence).write(" ".repeat(196) + "all?").does("fault = 199");
        // a letter after the other
        Run run = book.at("4", sentence);
        String letters = "item 7 99;send 5";
        int[] due = {0, 0, 0, 4, 5, 6, 7, -1, -1, 10, 10, 10, 10, 14, 15, -1};
        for (int n = 0; n < letters.length(); n++) {
            run.write(letters.substring(n, n + 1)).does("fault = " + due[n]);
        }
        // it is told by the letters alone, not by whether a clause would be refused; and nothing is done
        book.at("4", sentence).does("text send 0;item 0 1;begin 0", "fault = NONE, count 0 = 0, deal 0 0 = 0");
    }

    private void tell() {
        String sentence = "THE TEXT's CLAUSES are done";
        book.at("5", sentence).does("text item 7 9999", "tell = 1, count 9 = 0, fault = 0, item 7 0 = 9999, count 0 = 1, tell = NOT",
                "count 0 = 1");
        book.at("5", sentence).does("text limit 1;limit 2", "tell = 2, count 8 = 2");
        book.at("5", sentence).write("begin0" + ";begin0".repeat(23)).does("tell = 24, count 7 = 1, count 9 = 0");
        book.at("5", sentence).write(" ".repeat(197) + "all").does("tell = 1, count 9 = 0, write 32 = 1");
        book.at("5", sentence).does("text item 0 1;item 1 1", "tell = 2", "text item 2 1", "tell = 1, count 0 = 3, item 2 1 = 3");
    }

    private void item() {
        String sentence = "Of an ITEM: VALUE (what 0), STAMP (1)";
        Run run = book.at("6", sentence);
        for (int i = 0; i < 8; i++) {
            run.row("item " + i, 0, 0).does("put " + i + " " + (9992 + i) + " = " + (i + 1)).row("item " + i, 9992 + i, i + 1);
        }
        run.does("item 0 -1 = OUTSIDE, item 0 2 = OUTSIDE, item 7 -1 = OUTSIDE, item 7 2 = OUTSIDE, item -1 0 = UNKNOWN",
                "item 8 1 = UNKNOWN")
                .row("item 0", 9992, 1).row("item 7", 9999, 8);
        // what an open deal has laid is not the item's value yet
        book.at("6", sentence).does("begin 0, lay 0 0 5").row("item 0", 0, 0).does("send 0, vote 0, vote 1").row("item 0", 0, 0)
                .does("settle").row("item 0", 5, 1);
    }

    private void put() {
        String sentence = "A COMMIT of no DEAL";
        book.at("7", sentence).does("put 0 0 = 1, put 7 9999 = 2, count 0 = 2, count 10 = 9999").row("item 0", 0, 1).row("item 7", 9999, 2)
                .row("log 1", -1, 0, 0, 0, 1, 4).row("log 2", -1, 0, 0, 0, 128, 4).row("logged 1 0", -1, 0).row("logged 2 7", -1, 9999)
                .row("logged 2 0", -1, -1);
        // it has no rivals, dooms nobody and fails never, but makes stale
        book.at("7", sentence).does("begin 0, read 0 0, put 0 1 = 1, deal 0 0 = 1, deal 0 8 = 1, deal 0 9 = 1, count 3 = 0, count 4 = 0",
                "count 7 = 1");
        // until a deal is sent, and when none is any more
        book.at("7", sentence).does("begin 0, put 0 1 = 1, send 0, put 0 2 = NOT, item 0 0 = 1, vote 0, vote 1, put 0 2 = NOT, settle = 2",
                "put 0 2 = 3");
        book.at("7", sentence).does("begin 0, begin 1, send 0, send 1, vote 0, vote 1, settle = 1, put 0 2 = NOT, vote 0, vote 1",
                "settle = 2, put 0 2 = 3");
    }

    private void limit() {
        String sentence = "LIMIT: what it was";
        Run run = book.at("8", sentence);
        int was = 3;
        for (int n = 1; n <= 9; n++) {
            run.does("limit " + n + " = " + was + ", count 8 = " + n);
            was = n;
        }
        run.does("limit 9 = 9, limit 10 = OUTSIDE, limit 0 = OUTSIDE, limit -1 = OUTSIDE, limit MIN = OUTSIDE, limit MAX = OUTSIDE",
                "limit 1 = 9, limit 1 = 1");
    }
}
