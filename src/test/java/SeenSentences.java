/** The edges that promises 20 to 27 name, but for their refusals. */
final class SeenSentences {
    private final Book book;

    SeenSentences(Book book) {
        this.book = book;
    }

    void all() {
        deal();
        noted();
        sent();
        ballot();
        log();
        logged();
        behind();
        behindByStamps();
        count();
    }

    private void deal() {
        String sentence = "Of a DEAL: STATE (what 0)";
        book.at("20", sentence).row("deal 0", 0, 0, 0, 0, 0, 0, 0, 0, 0, 0, 0, -1).row("deal 5", 0, 0, 0, 0, 0, 0, 0, 0, 0, 0, 0, -1)
                .does("deal 0 -1 = OUTSIDE, deal 0 12 = OUTSIDE, deal 5 MIN = OUTSIDE, deal 5 MAX = OUTSIDE, deal -1 0 = UNKNOWN",
                "deal 6 11 = UNKNOWN");
        // open, of all items and all rivals; then lost, stubborn, its age and tries kept, and sent
        Run run = book.at("20", sentence).told("limit 1;begin 5;begin 0;begin 1;begin 2;begin 3;begin 4")
                .does("abort 5, put 6 6, retry 5 = 1");
        for (int i = 0; i < 8; i++) {
            run.does("read 5 " + i + ", lay 5 " + i + " 1");
        }
        for (int d = 0; d < 5; d++) {
            run.does("read " + d + " " + (d + 3));
        }
        run.row("deal 5", 1, 1, 1, 1, 255, 255, 0, 1, 0, 0, 31, -1).does("put 0 0, put 7 0")
                .row("deal 5", 1, 1, 1, 1, 255, 255, 0, 1, 129, 129, 31, -1)
                .does("send 5 = 1").row("deal 5", 3, 1, 1, 1, 255, 255, 0, 1, 129, 129, 31, 1)
                .does("vote 0 = 0, vote 1 = 0, settle = STALE").row("deal 5", 0, 0, 1, 1, 0, 0, 1, 1, 0, 0, 0, -1)
                .does("limit 2").row("deal 5", 0, 0, 1, 1, 0, 0, 1, 0, 0, 0, 0, -1);
        // doomed
        book.at("20", sentence).does("put 1 1, begin 0, begin 1, begin 2, read 1 0, lay 1 7 7, read 2 7, lay 0 0 5, commit 0 2 = 2")
                .row("deal 1", 2, 1, 2, 0, 1, 128, 0, 0, 1, 1, 4, -1).row("deal 0", 0, 0, 0, 0, 0, 0, 0, 0, 0, 0, 0, -1);
        // crossed, but not stale
        book.at("20", sentence).does("begin 0, put 7 1, read 0 7").row("deal 0", 1, 0, 1, 0, 128, 0, 0, 0, 0, 128, 0, -1);
    }

    private void noted() {
        String sentence = "Of a DEAL and an ITEM: the VALUE NOTED";
        book.at("21", sentence).does("put 0 9999, put 7 1, begin 0, begin 5, read 5 0, read 5 7, lay 5 7 9999, lay 5 6 0")
                .row("noted 5 0", 9999, 1, -1).row("noted 5 7", 1, 2, 9999).row("noted 5 6", -1, -1, 0).row("noted 5 1", -1, -1, -1)
                .row("noted 0 0", -1, -1, -1).row("noted 4 7", -1, -1, -1)
                .does("noted 5 0 -1 = OUTSIDE, noted 5 0 3 = OUTSIDE, noted 5 8 0 = UNKNOWN, noted 5 -1 0 = UNKNOWN, noted 6 0 0 = UNKNOWN",
                "noted -1 0 0 = UNKNOWN");
        // noted as 0, which is not NONE
        book.at("21", sentence).does("begin 0, read 0 0").row("noted 0 0", 0, 0, -1).does("abort 0").row("noted 0 0", -1, -1, -1);
        // of doomed and of sent deals, and when they are free
        book.at("21", sentence).does("begin 0, begin 1, read 1 0, lay 1 1 5, lay 0 0 1, commit 0 2").row("noted 1 0", 0, 0, -1)
                .row("noted 1 1", -1, -1, 5)
                .does("abort 1").row("noted 1 0", -1, -1, -1).row("noted 1 1", -1, -1, -1);
        book.at("21", sentence).does("begin 1, read 1 0, lay 1 1 5, send 1").row("noted 1 0", 0, 0, -1).row("noted 1 1", -1, -1, 5)
                .does("vote 0, vote 1, settle").row("noted 1 0", -1, -1, -1).row("noted 1 1", -1, -1, -1);
    }

    private void sent() {
        String sentence = "The SENT DEAL that is at place k by TICKETS";
        book.at("22", sentence).does("sent 0 = UNKNOWN, begin 3, sent 0 = UNKNOWN, send 3, sent 0 = 3, sent 1 = UNKNOWN",
                "sent -1 = UNKNOWN");
        Run run = book.at("22", sentence).told("begin 0;begin 1;begin 2;begin 3;begin 4;begin 5")
                .does("send 2, send 5, send 0, send 4, send 3, send 1");
        run.does("sent 0 = 2, sent 1 = 5, sent 2 = 0, sent 3 = 4, sent 4 = 3, sent 5 = 1, sent 6 = UNKNOWN, sent -1 = UNKNOWN",
                "sent MIN = UNKNOWN, sent MAX = UNKNOWN");
        // places move up when one is settled
        run.does("vote 0, vote 1, settle = 1, sent 0 = 5, sent 4 = 1, sent 5 = UNKNOWN, begin 2, send 2 = 7, sent 5 = 2, sent 0 = 5");
    }

    private void ballot() {
        String sentence = "The VOTE of a VALIDATOR on a SENT DEAL";
        book.at("23", sentence).does("begin 0, begin 5, read 0 0, read 5 7, put 0 1, put 7 1, send 5, send 0, ballot 0 5 = NONE",
                "ballot 1 5 = NONE",
                "vote 1 = 0, ballot 1 5 = 0, ballot 0 5 = NONE, vote 0 = 1, ballot 0 5 = 1, ballot 0 0 = NONE, ballot 1 0 = NONE",
                "vote 0 = 0, ballot 0 0 = 0, vote 1 = 1, ballot 1 0 = 1, settle = STALE, ballot 0 5 = NOT, ballot 0 0 = 0, ballot 1 0 = 1");
        book.at("23", sentence).does("begin 0, send 0, ballot -1 0 = UNKNOWN, ballot 2 0 = UNKNOWN, ballot 0 -1 = UNKNOWN",
                "ballot 0 6 = UNKNOWN, ballot 1 1 = NOT");
        book.at("23", sentence).does("begin 0, begin 1, read 1 0, lay 0 0 1, commit 0 2, ballot 0 1 = NOT, ballot 0 0 = NOT, begin 2",
                "ballot 0 2 = NOT");
    }

    private void log() {
        String sentence = "Of a COMMIT (by its number): DEAL";
        Run run = book.at("24", sentence).does("put 7 9, begin 0, begin 5, begin 4, begin 3, abort 5, retry 5, abort 5, retry 5 = 2",
                "read 5 0, read 5 7, lay 5 7 1");
        run.does("commit 5 0 = 2, lay 4 0 1, commit 4 1 = 3, commit 0 2 = 4, read 3 3, send 3, vote 0, vote 1, settle = 5");
        run.row("log 1", -1, 0, 0, 0, 128, 4).row("log 2", 5, 2, 2, 129, 128, 0).row("log 3", 4, 3, 0, 0, 1, 1)
                .row("log 4", 0, 1, 0, 0, 0, 2).row("log 5", 3, 4, 0, 8, 0, 3);
        run.does("log 0 0 = UNKNOWN, log 6 0 = UNKNOWN, log 1 -1 = OUTSIDE, log 1 6 = OUTSIDE, log 5 6 = OUTSIDE");
        // what comes later does not change it
        run.does("begin 5, lay 5 6 6, read 5 1, commit 5 2 = 6").row("log 2", 5, 2, 2, 129, 128, 0).row("log 6", 5, 5, 0, 2, 64, 2);
        // one that failed is not logged
        book.at("24", sentence).does("begin 0, read 0 0, put 0 1, commit 0 0 = STALE, log 1 0 = NONE, log 2 0 = UNKNOWN");
        Run most = book.at("24", sentence).does("begin 2");
        for (int i = 0; i < 8; i++) {
            most.does("read 2 " + i + ", lay 2 " + i + " 9");
        }
        most.does("commit 2 2").row("log 1", 2, 1, 0, 255, 255, 2);
    }

    private void logged() {
        String sentence = "Of a COMMIT and an ITEM: the STAMP NOTED";
        book.at("25", sentence).does("put 0 9999, put 7 0, begin 1, read 1 0, read 1 6, lay 1 7 9999, lay 1 0 0, commit 1 1 = 3")
                .row("logged 1 0", -1, 9999).row("logged 1 7", -1, -1).row("logged 2 7", -1, 0).row("logged 2 0", -1, -1)
                .row("logged 3 0", 1, 0).row("logged 3 6", 0, -1).row("logged 3 7", -1, 9999).row("logged 3 1", -1, -1)
                .does("logged 3 0 -1 = OUTSIDE, logged 3 0 2 = OUTSIDE, logged 3 -1 0 = UNKNOWN, logged 3 8 0 = UNKNOWN",
                "logged 0 0 0 = UNKNOWN, logged 4 0 0 = UNKNOWN");
        // the deal's next commit does not change what was logged of it
        book.at("25", sentence).does("put 0 1, begin 1, read 1 0, lay 1 1 11, commit 1 1 = 2, put 0 2, begin 1, read 1 0, lay 1 1 12",
                "commit 1 1 = 4")
                .row("logged 2 0", 1, -1).row("logged 2 1", -1, 11).row("logged 4 0", 3, -1).row("logged 4 1", -1, 12);
        // of a settled one as well
        book.at("25", sentence).does("put 3 1, begin 1, read 1 3, send 1, vote 0, vote 1, settle = 2").row("logged 2 3", 1, -1);
    }

    private void behind() {
        String sentence = "Of a COMMIT and an earlier one, together";
        String[] later = {"read 1 0", "lay 1 0 1", "lay 1 7 1"};
        int[] adds = {1, 2, 4};
        // the earlier one wrote item 0 and read item 7; the later one does each of these things, and not the others
        for (int bits = 0; bits < 8; bits++) {
            Run run = book.at("26", sentence).does("begin 0, read 0 7, lay 0 0 5, commit 0 1 = 1, begin 1");
            int due = 0;
            for (int n = 0; n < 3; n++) {
                if ((bits >> n & 1) != 0) {
                    run.does(later[n]);
                    due += adds[n];
                }
            }
            run.does("commit 1 1 = 2, behind 2 1 = " + due + ", behind 1 2 = UNKNOWN, behind 1 1 = UNKNOWN, behind 2 2 = UNKNOWN");
        }
        book.at("26", sentence).does("behind 1 1 = UNKNOWN, behind 1 0 = UNKNOWN, put 0 1, behind 1 0 = UNKNOWN, behind 1 1 = UNKNOWN",
                "put 0 1, behind 2 1 = 2",
                "behind 2 0 = UNKNOWN, behind 3 2 = UNKNOWN, behind 3 1 = UNKNOWN, behind 0 -1 = UNKNOWN, behind 2 MIN = UNKNOWN",
                "behind MAX 1 = UNKNOWN, behind MIN MAX = UNKNOWN");
    }

    private void behindByStamps() {
        String sentence = "Of a COMMIT and an earlier one, together";
        // it read the item, but what a later one wrote of it
        book.at("26", sentence).does("put 0 1, put 0 2, begin 0, read 0 0, commit 0 1 = 3, behind 3 1 = 0, behind 3 2 = 1");
        // it read what was at first: no commit wrote that
        book.at("26", sentence).does("put 1 1, begin 0, read 0 0, commit 0 1 = 2, behind 2 1 = 0");
        // both read it alone; both did nothing
        book.at("26", sentence).does("begin 0, begin 1, read 0 0, read 1 0, commit 0 1, commit 1 1, behind 2 1 = 0, begin 0, begin 1",
                "commit 0 0, commit 1 0, behind 4 3 = 0, behind 4 1 = 0");
        // a commit of no deal reads nothing
        book.at("26", sentence).does("begin 0, read 0 0, lay 0 7 7, commit 0 0, put 0 1, put 7 1, behind 2 1 = 4, behind 3 1 = 2",
                "behind 3 2 = 0");
        // it wrote it first, so it did not read it
        book.at("26", sentence).does("put 0 1, begin 0, lay 0 0 2, read 0 0 = 2, commit 0 1 = 2, behind 2 1 = 2");
    }

    private void count() {
        String sentence = "0 COMMITS, 1 OPEN DEALS";
        book.at("27", sentence).row("count", 0, 0, 0, 0, 0, 0, 0, 0, 3, 0, 0)
                .does("count -1 = OUTSIDE, count 11 = OUTSIDE, count MIN = OUTSIDE, count MAX = OUTSIDE");
        // the greatest sum there can be
        Run most = book.at("27", sentence);
        for (int i = 0; i < 8; i++) {
            most.does("put " + i + " 9999, count 10 = " + 9999 * (i + 1) + ", count 0 = " + (i + 1));
        }
        most.does("put 7 9998, count 10 = 79991, put 0 0, count 10 = 69992");
        // what each way to fail counts among
        book.at("27", sentence).does("begin 0, abort 0").row("count", 0, 0, 0, 0, 1, 0, 0, 1, 3, 0, 0);
        book.at("27", sentence).does("begin 0, read 0 0, put 0 1, sweep").row("count", 1, 0, 0, 0, 1, 0, 0, 1, 3, 0, 1);
        book.at("27", sentence).does("begin 0, read 0 0, put 0 1, commit 0 0").row("count", 1, 0, 0, 0, 1, 0, 0, 1, 3, 0, 1);
        book.at("27", sentence).does("begin 0, put 0 1, read 0 0, commit 0 0").row("count", 1, 0, 0, 0, 1, 1, 0, 1, 3, 0, 1);
        book.at("27", sentence).does("begin 1, begin 0, read 1 0, lay 0 0 1, commit 0 2").row("count", 0, 1, 0, 0, 1, 0, 1, 2, 3, 0, 0);
        book.at("27", sentence).does("begin 0, begin 1, read 1 0, lay 0 0 1, commit 0 2").row("count", 1, 0, 0, 1, 0, 0, 0, 2, 3, 0, 1)
                .does("abort 1").row("count", 1, 0, 0, 0, 1, 0, 0, 2, 3, 0, 1).does("retry 1").row("count", 1, 1, 0, 0, 1, 0, 0, 2, 3, 0, 1)
                .does("send 1, limit 9, write 0").row("count", 1, 0, 1, 0, 1, 0, 0, 2, 9, 1, 1)
                .does("erase", "text all", "tell = 1").row("count", 0, 0, 0, 0, 0, 0, 0, 0, 3, 0, 0);
        // in vain, settled
        book.at("27", sentence).does("begin 0, begin 1, read 0 0, lay 0 7 7, read 1 7, put 0 1, send 0, send 1, vote 0, vote 1, vote 0",
                "vote 1, settle = STALE")
                .row("count", 1, 0, 1, 0, 1, 0, 0, 2, 3, 0, 1).does("settle = VAIN").row("count", 1, 0, 0, 0, 2, 1, 0, 2, 3, 0, 1);
        // all six
        book.at("27", sentence).told("begin 0;begin 1;begin 2;begin 3;begin 4;begin 5").does("count 1 = 6")
                .told("send 0;send 1;send 2;send 3;send 4;send 5").does("count 1 = 0, count 2 = 6");
        Run text = book.at("27", sentence);
        text.write("x".repeat(200)).does("count 9 = 200, write 120 = FULL, count 9 = 200");
    }
}
