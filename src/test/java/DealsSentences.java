/** The edges that promises 9 to 19 name, but for their refusals. */
final class DealsSentences {
    private final Book book;

    DealsSentences(Book book) {
        this.book = book;
    }

    void all() {
        begin();
        retry();
        read();
        lay();
        commit();
        peek();
        peekTellsWhatCommitTells();
        abort();
        sweep();
        send();
        vote();
        settle();
    }

    private void begin() {
        String sentence = "A FREE DEAL becomes OPEN";
        Run run = book.at("9", sentence);
        for (int d = 0; d < 6; d++) {
            run.does("begin " + d + " = " + (d + 1)).row("deal " + d, 1, 0, d + 1, 0, 0, 0, 0, 0, 0, 0, 0, -1);
        }
        run.does("count 1 = 6, count 7 = 6, begin 0 = NOT, begin 5 = NOT, abort 5, begin 5 = 7, count 7 = 7");
        // what was begun again by retry(), or refused, does not count
        book.at("9", sentence).does("begin 0 = 1, begin 0 = NOT, abort 0, retry 0 = 1, begin 6 = UNKNOWN, begin 1 = 2, count 7 = 2");
        // a lost one: nothing is left of what it was
        book.at("9", sentence).does("begin 0, abort 0, retry 0, put 1 1, read 0 1, lay 0 2 2, abort 0, deal 0 6 = 1, begin 0 = 2")
                .row("deal 0", 1, 1, 2, 0, 0, 0, 0, 0, 0, 0, 0, -1).row("noted 0 1", -1, -1, -1).row("noted 0 2", -1, -1, -1)
                .does("abort 0, retry 0 = 1");
        // one that has committed, and one that was settled
        book.at("9", sentence).does("begin 0, lay 0 0 1, read 0 1, commit 0 0 = 1, begin 0 = 2").row("deal 0", 1, 1, 2, 0, 0, 0, 0);
        book.at("9", sentence).does("begin 0, lay 0 0 1, send 0, vote 0, vote 1, settle = 1, begin 0 = 2")
                .row("deal 0", 1, 1, 2, 0, 0, 0, 0, 0, 0, 0, 0, -1);
        // since all was as at first
        book.at("9", sentence).does("begin 0 = 1, begin 1 = 2", "text all", "tell, begin 4 = 1, begin 0 = 2");
        book.at("9", sentence).does("begin 0 = 1", "text begin 1;begin 2", "tell = 2, begin 3 = 4");
    }

    private void retry() {
        String sentence = "A LOST DEAL becomes OPEN";
        Run run = book.at("10", sentence).does("begin 5 = 1, begin 0 = 2");
        for (int n = 1; n <= 30; n++) {
            run.does("put 0 1, read 0 0, lay 0 1 1, abort 0 = 1, retry 0 = " + n).row("deal 0", 1, n, 2, n, 0, 0, 0, n >= 3 ? 1 : 0);
        }
        run.does("noted 0 0 0 = NONE, noted 0 1 2 = NONE, count 7 = 2, count 4 = 30");
        // however it was lost: stale, in vain, yielding, doomed, swept, settled
        book.at("10", sentence).does("begin 0, read 0 0, put 0 1, commit 0 1 = STALE, retry 0 = 1, deal 0 6 = 0, retry 0 = NOT");
        book.at("10", sentence).does("begin 0, put 0 1, read 0 0, commit 0 0 = VAIN, retry 0 = 1, read 0 0 = 1, commit 0 0 = 2");
        book.at("10", sentence).does("begin 1, begin 0, read 1 0, lay 0 0 1, commit 0 2 = YIELDS, retry 0 = 1");
        book.at("10", sentence).does("begin 0, begin 1, read 1 0, lay 0 0 1, commit 0 2 = 1, retry 1 = NOT, abort 1 = 0, retry 1 = 1",
                "deal 1 1 = 1");
        book.at("10", sentence).does("begin 0, read 0 0, put 0 1, sweep = 1, retry 0 = 1");
        book.at("10", sentence).does("begin 0, read 0 0, put 0 1, send 0, vote 0, vote 1, retry 0 = NOT, settle = STALE, retry 0 = 1",
                "deal 0 11 = NONE, ballot 0 0 = NOT");
    }

    private void read() {
        String sentence = "READ: the VALUE";
        book.at("11", sentence).does("put 0 9999, put 7 0, begin 5, read 5 0 = 9999, read 5 7 = 0, read 5 6 = 0, deal 5 4 = 193");
        book.at("11", sentence).does("begin 0, lay 0 7 9999, read 0 7 = 9999, lay 0 7 0, read 0 7 = 0, deal 0 4 = 0");
        // a sent deal elsewhere does not matter
        book.at("11", sentence).does("put 0 3, begin 0, begin 1, lay 0 0 4, send 0, read 1 0 = 3, vote 0, vote 1, settle = 2, read 1 0 = 3",
                "deal 1 8 = 1");
    }

    private void lay() {
        String sentence = "The ITEM is of WRITES of an OPEN DEAL";
        Run run = book.at("12", sentence).does("begin 5");
        for (int i = 0; i < 8; i++) {
            run.does("lay 5 " + i + " " + 1111 * i + " = " + (i + 1) + ", deal 5 5 = " + ((2 << i) - 1),
                    "noted 5 " + i + " 2 = " + 1111 * i);
        }
        run.does("lay 5 0 9999 = 8, lay 5 7 0 = 8, noted 5 0 2 = 9999, noted 5 7 2 = 0, deal 5 4 = 0, item 0 0 = 0, count 10 = 0");
        book.at("12", sentence).does("begin 0, lay 0 0 -1 = OUTSIDE, lay 0 0 10000 = OUTSIDE, deal 0 5 = 0, lay 0 0 0 = 1",
                "lay 0 0 9999 = 1, lay 0 0 10000 = OUTSIDE, noted 0 0 2 = 9999");
        book.at("12", sentence).does("begin 0, begin 1, lay 0 0 1 = 1, lay 1 0 2 = 1, lay 1 1 2 = 2, lay 0 7 1 = 2, noted 0 0 2 = 1",
                "noted 1 0 2 = 2, begin 2, send 2, lay 0 6 1 = 3");
    }

    private void commit() {
        String sentence = "An OPEN DEAL is CHECKED by a WAY";
        for (int way = 0; way <= 2; way++) {
            book.at("13", sentence).does("begin 0, commit 0 " + way + " = 1, log 1 5 = " + way + ", commit 0 " + way + " = NOT");
            book.at("13", sentence).does("begin 0, read 0 0, put 0 0, commit 0 " + way + " = STALE, log 2 0 = UNKNOWN, deal 0 6 = 1",
                    "commit 0 " + way + " = NOT");
            book.at("13", sentence).does("begin 0, put 0 0, read 0 0, commit 0 " + way + " = " + (way == 0 ? "VAIN" : "2"));
            book.at("13", sentence).does("begin 1, begin 0, read 1 0, lay 0 0 5, commit 0 " + way + " = " + (way == 2 ? "YIELDS" : "1"));
        }
        book.at("13", sentence).does("begin 0, commit 0 -1 = OUTSIDE, commit 0 3 = OUTSIDE, commit 0 4 = OUTSIDE, commit 0 MIN = OUTSIDE",
                "commit 0 MAX = OUTSIDE, commit 0 0 = 1");
        // until a deal is sent, and when none is any more
        book.at("13", sentence).does("begin 0, begin 1, send 1, commit 0 0 = NOT, commit 1 0 = NOT, vote 0, vote 1, commit 0 1 = NOT",
                "settle = 1, commit 0 2 = 2");
    }

    private void peek() {
        String sentence = "What commit() would tell now";
        book.at("14", sentence).does("begin 0, lay 0 0 1, peek 0 0 = 1, peek 0 1 = 1, peek 0 2 = 1, count 0 = 0, item 0 0 = 0",
                "deal 0 0 = 1, put 1 1, peek 0 0 = 2");
        book.at("14", sentence).does("begin 0, read 0 0, put 0 1, peek 0 0 = STALE, peek 0 1 = STALE, peek 0 2 = STALE, count 4 = 0",
                "deal 0 0 = 1");
        book.at("14", sentence).does("begin 0, put 0 1, read 0 0, peek 0 0 = VAIN, peek 0 1 = 2, peek 0 2 = 2, count 4 = 0, count 5 = 0",
                "deal 0 0 = 1");
        book.at("14", sentence).does("begin 1, begin 0, read 1 0, lay 0 0 1, peek 0 0 = 1, peek 0 1 = 1, peek 0 2 = YIELDS, count 6 = 0",
                "deal 0 0 = 1, deal 1 0 = 1");
        // no rival is doomed by it
        book.at("14", sentence).does("begin 0, begin 1, read 1 0, lay 0 0 1, peek 0 2 = 1, deal 1 0 = 1, count 3 = 0, commit 0 2 = 1",
                "deal 1 0 = 2");
        book.at("14", sentence).does("begin 0, peek 0 -1 = OUTSIDE, peek 0 3 = OUTSIDE, begin 1, send 1, peek 0 0 = NOT, peek 1 0 = NOT",
                "vote 0, vote 1, settle = 1, peek 0 0 = 2");
    }

    /** Each of many scenes twice: the one is peeked at and then seen, the other one is committed. */
    private void peekTellsWhatCommitTells() {
        String sentence = "What commit() would tell now";
        String[] scenes = {
            "begin 0", "begin 0, read 0 0, lay 0 7 1", "begin 0, read 0 0, put 0 1", "begin 0, put 0 1, read 0 0",
            "begin 1, begin 0, read 1 0, lay 0 0 1", "begin 0, begin 1, read 1 0, lay 0 0 1",
            "limit 1, begin 0, begin 1, abort 1, retry 1, read 1 0, lay 0 0 1", "abort 0", "begin 0, send 0",
            "begin 0, begin 1, send 1", "begin 1, begin 0, read 0 0, lay 1 0 1, commit 1 2", "begin 0, abort 0",
        };
        for (String scene : scenes) {
            for (int way = -1; way <= 3; way++) {
                Run peeked = book.at("14", sentence).does(scene);
                int told = book.at("14", sentence).does(scene).call("commit", 0, way);
                peeked.does("peek 0 " + way + " = " + told);
                book.same("14: " + scene + ", peek 0 " + way, peeked.seen(), book.at("14", sentence).does(scene).seen());
            }
        }
    }

    private void abort() {
        String sentence = "An OPEN or DOOMED DEAL FAILS";
        Run run = book.at("15", sentence).told("begin 0;begin 1;begin 2;begin 3;begin 4;begin 5");
        for (int d = 0; d < 6; d++) {
            run.does("abort " + d + " = " + (5 - d) + ", count 4 = " + (d + 1) + ", abort " + d + " = NOT");
        }
        // doomed ones and sent ones are not open
        book.at("15", sentence).told("begin 0;begin 1;begin 2;begin 3;begin 4").does(
                "read 1 0, read 2 0, lay 0 0 1, commit 0 2 = 1, abort 1 = 2, send 3, abort 2 = 1, abort 3 = NOT, abort 4 = 0, count 4 = 3",
                "count 5 = 0, count 6 = 0");
        // a sent deal elsewhere does not matter
        book.at("15", sentence).does("begin 0, begin 1, send 1, abort 0 = 0, deal 0 6 = 1, deal 0 2 = 1");
    }

    private void sweep() {
        String sentence = "All OPEN DEALS of which a READ is STALE FAIL";
        book.at("16", sentence).does("sweep = 0, begin 0, sweep = 0, read 0 0, sweep = 0, put 1 1, sweep = 0, put 0 0, sweep = 1",
                "deal 0 6 = 1, sweep = 0, count 4 = 1, count 5 = 0");
        // all six, by one item of several
        Run run = book.at("16", sentence).told("begin 0;begin 1;begin 2;begin 3;begin 4;begin 5");
        for (int d = 0; d < 6; d++) {
            run.does("read " + d + " " + d + ", read " + d + " 7");
        }
        run.does("sweep = 0, put 7 1, sweep = 6, count 1 = 0, count 4 = 6, count 5 = 0, count 6 = 0, retry 0 = 1, retry 5 = 1");
        // neither those that are doomed nor those that are sent, nor those that are crossed alone
        book.at("16", sentence).does("begin 0, begin 1, begin 2, begin 3, read 1 0, lay 0 0 1, read 2 5, send 2, vote 0, vote 1",
                "settle = 1",
                "begin 2, read 2 6, commit 0 2 = 2, put 6 6, send 2, read 3 6, sweep = 0, deal 1 0 = 2, deal 1 8 = 1, deal 2 0 = 3",
                "deal 2 8 = 64, deal 3 0 = 1, deal 3 9 = 64");
        // while a deal is sent, too
        book.at("16", sentence).does("begin 0, begin 1, read 0 0, put 0 1, send 1, sweep = 1, deal 0 0 = 0, deal 1 0 = 3");
    }

    private void send() {
        String sentence = "An OPEN DEAL is SENT: its TICKET";
        Run run = book.at("17", sentence).told("begin 0;begin 1;begin 2;begin 3;begin 4;begin 5");
        for (int n = 1; n <= 6; n++) {
            run.does("send " + (6 - n) + " = " + n + ", deal " + (6 - n) + " 0 = 3",
                    "deal " + (6 - n) + " 11 = " + n + ", count 2 = " + n + ", count 1 = " + (6 - n));
        }
        run.does("send 0 = NOT, send 5 = NOT, ballot 0 0 = NONE, ballot 1 0 = NONE");
        // a stale one is sent as well
        book.at("17", sentence).does("begin 0, read 0 0, put 0 1, send 0 = 1, deal 0 8 = 1");
        // a refused one takes no ticket
        book.at("17", sentence).does("begin 0, send 1 = NOT, send 6 = UNKNOWN, send 0 = 1, begin 1, send 1 = 2");
        // votes of before do not count for it
        book.at("17", sentence).does("begin 0, send 0 = 1, vote 0 = 1, vote 1 = 1, settle = 1, begin 0, send 0 = 2, ballot 0 0 = NONE",
                "ballot 1 0 = NONE, settle = NOT");
    }

    private void vote() {
        String sentence = "A VALIDATOR VOTES on the SENT DEAL of the least TICKET";
        Run run = book.at("18", sentence).told("begin 0;begin 1;begin 2;begin 3;begin 4;begin 5").does("read 3 0, put 0 1");
        run.does("send 5, send 3, send 0, send 1, send 2, send 4");
        int[] order = {5, 3, 0, 1, 2, 4};
        for (int d : order) {
            run.does("ballot 0 " + d + " = NONE",
                    "vote 0 = " + (d == 3 ? 0 : 1) + ", ballot 0 " + d + " = " + (d == 3 ? 0 : 1) + ", ballot 1 " + d + " = NONE");
        }
        run.does("vote 0 = NOT");
        for (int d : order) {
            run.does("vote 1 = 1, ballot 1 " + d + " = 1");
        }
        run.does("vote 1 = NOT, vote 0 = NOT");
        // one that is sent later is voted on when it comes
        book.at("18", sentence).does("begin 0, begin 1, vote 0 = NOT, send 0, vote 0 = 1, vote 0 = NOT, send 1, vote 0 = 1, vote 0 = NOT",
                "vote 1 = 1, vote 1 = 1, vote 1 = NOT");
        // a vote stays as it was, also if things change
        book.at("18", sentence).does("begin 0, begin 1, lay 0 0 1, read 1 0, send 0, send 1, vote 0 = 1, vote 0 = 0, vote 1, vote 1",
                "settle = 1, ballot 0 1 = 0, ballot 1 1 = 1");
    }

    private void settle() {
        String sentence = "The SENT DEAL of the least TICKET is SETTLED";
        Run run = book.at("19", sentence).told("begin 0;begin 1;begin 2;begin 3;begin 4;begin 5");
        run.does("send 4, send 0, send 5, send 1, send 2, send 3");
        for (int n = 0; n < 6; n++) {
            run.does("vote 0 = 1, settle = NOT, vote 1 = 1, settle = " + (n + 1) + ", count 2 = " + (5 - n));
        }
        run.does("settle = NOT, log 1 0 = 4, log 2 0 = 0, log 3 0 = 5, log 4 0 = 1, log 5 0 = 2, log 6 0 = 3, log 6 5 = 3");
        book.at("19", sentence).does("begin 0, read 0 4, put 4 0, send 0, vote 0 = 1, vote 1 = 0, settle = STALE, count 0 = 1, count 4 = 1",
                "count 5 = 0, deal 0 6 = 1");
        book.at("19", sentence).does("begin 0, begin 1, read 0 4, lay 0 0 1, read 1 0, put 4 0, send 0, send 1, vote 0, vote 0 = 0",
                "vote 1 = 0, vote 1 = 1",
                "settle = STALE, settle = VAIN, count 0 = 1, count 4 = 2, count 5 = 1, deal 1 6 = 1, deal 1 0 = 0");
    }
}
