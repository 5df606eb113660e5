/** The edges that the Terms name, a sentence after the other, up to the votes; the text has a class of its own. */
final class TermsSentences {
    private static final String TERMS = "Terms";

    private final Book book;

    TermsSentences(Book book) {
        this.book = book;
    }

    void all() {
        object();
        items();
        commitsAreNumbered();
        states();
        notFree();
        lost();
        stubborn();
        read();
        stale();
        crossed();
        rivals();
        fails();
        commitOfADeal();
        backward();
        byStamps();
        forward();
        forwardByTries();
        ifItDidNotFail();
        tickets();
        validators();
        settled();
        toldAs();
    }

    private void object() {
        String sentence = "An object is used for at most 512 calls";
        Run puts = book.at("Object", sentence);
        for (int n = 1; n <= 512; n++) {
            puts.does("put " + n % 8 + " " + n + " = " + n);
        }
        Run logged = book.at("Object", sentence);
        for (int n = 1; n <= 506; n++) {
            logged.does("put 3 " + n);
        }
        logged.does("log 506 4 = 8, logged 506 3 1 = 506, behind 506 505 = 2, item 3 1 = 506, log 507 4 = UNKNOWN, log 1 5 = 4");
        Run ages = book.at("Object", sentence);
        for (int n = 1; n <= 256; n++) {
            ages.does("begin 5 = " + n + ", abort 5 = 0");
        }
        Run tries = book.at("Object", sentence).does("begin 0 = 1");
        for (int n = 1; n <= 255; n++) {
            tries.does("abort 0 = 0, retry 0 = " + n);
        }
        tries.does("deal 0 3 = 255");
        Run commits = book.at("Object", sentence);
        for (int n = 1; n <= 256; n++) {
            commits.does("begin 0 = " + n + ", commit 0 0 = " + n);
        }
        Run tickets = book.at("Object", sentence);
        for (int n = 1; n <= 102; n++) {
            tickets.does("begin 1 = " + n + ", send 1 = " + n + ", vote 0 = 1, vote 1 = 1, settle = " + n);
        }
        tickets.does("log 102 5 = 3, count 0 = 102");
        Run texts = book.at("Object", sentence);
        String most = "item7 1" + ";item7 1".repeat(23);
        texts.write(most).does("tell = 24").write(most).does("tell = 24, item 7 1 = 48");
        for (int n = 49; texts.callsMade() < 512; n++) {
            texts.does("put 0 9999 = " + n);
        }
    }

    private void items() {
        String sentence = "7: each has a VALUE";
        Run first = book.at(TERMS, sentence);
        for (int i = 0; i < 8; i++) {
            first.row("item " + i, 0, 0);
        }
        book.at(TERMS, sentence).does(
                "item -1 0 = UNKNOWN, item 8 0 = UNKNOWN, item 0 0 = 0, item 7 0 = 0",
                "put -1 5 = UNKNOWN, put 8 5 = UNKNOWN, put 0 -1 = OUTSIDE, put 0 10000 = OUTSIDE, put 7 -1 = OUTSIDE",
                "put 7 10000 = OUTSIDE",
                "item 0 0 = 0, item 0 1 = 0, item 7 0 = 0, item 7 1 = 0, count 0 = 0",
                "put 0 9999 = 1, item 0 0 = 9999, item 0 1 = 1, put 0 0 = 2, item 0 0 = 0, item 0 1 = 2",
                "put 7 9998 = 3, item 7 0 = 9998, item 7 1 = 3, put 7 1 = 4, item 7 0 = 1, item 7 1 = 4",
                "item 0 1 = 2, item 1 1 = 0, item 6 1 = 0");
        // a number cut to its low bits would be an item, or a value, again
        book.at(TERMS, sentence).does(
                "put 32 1 = UNKNOWN, put 256 1 = UNKNOWN, put 65536 1 = UNKNOWN, put MIN 1 = UNKNOWN, put MAX 1 = UNKNOWN",
                "put 0 65536 = OUTSIDE, put 0 MIN = OUTSIDE, put 0 MAX = OUTSIDE, count 0 = 0");
        // it is told who wrote it last, also if that wrote what it was
        book.at(TERMS, sentence).does(
                "put 4 7 = 1, put 4 7 = 2, item 4 1 = 2, begin 0, lay 0 4 7, commit 0 1 = 3, item 4 0 = 7, item 4 1 = 3",
                "begin 0, read 0 4 = 7, commit 0 1 = 4, item 4 1 = 3");
    }

    private void commitsAreNumbered() {
        String sentence = "COMMITS are numbered 1, 2";
        book.at(TERMS, sentence).does(
                "count 0 = 0, log 0 0 = UNKNOWN, log 1 0 = UNKNOWN, put 0 1 = 1, log 0 0 = UNKNOWN, log 1 0 = NONE, log 2 0 = UNKNOWN",
                "begin 0, commit 0 1 = 2, log 2 0 = 0, begin 1, read 1 0, put 0 2 = 3, commit 1 1 = STALE, count 0 = 3",
                "log 4 0 = UNKNOWN, begin 2, send 2, vote 0, vote 1, settle = 4, log 4 0 = 2, put 1 1 = 5");
        book.at(TERMS, sentence).does("put 0 1 = 1, put 0 1 = 2", "text all", "tell = 1, count 0 = 0, log 1 0 = UNKNOWN, put 0 1 = 1");
    }

    private void states() {
        String sentence = "DEALS 0 .. 5: STATE of each";
        Run first = book.at(TERMS, sentence);
        for (int d = 0; d < 6; d++) {
            first.does("deal " + d + " 0 = 0");
        }
        first.does("deal -1 0 = UNKNOWN, deal 6 0 = UNKNOWN, deal MIN 0 = UNKNOWN, deal MAX 0 = UNKNOWN");
        book.at(TERMS, sentence).does(
                "begin -1 = UNKNOWN, begin 6 = UNKNOWN, begin 0 = 1, deal 0 0 = 1, deal 5 0 = 0, begin 5 = 2, deal 5 0 = 1",
                "read 5 3, lay 0 3 1, commit 0 2 = 1, deal 0 0 = 0, deal 5 0 = 2, begin 0, send 0 = 1, deal 0 0 = 3, deal 5 0 = 2");
    }

    private void notFree() {
        String sentence = "One that is not FREE has START";
        // open: ahead of every commit, and behind some
        book.at(TERMS, sentence).does("begin 0, put 2 22, begin 1, read 0 2 = 22, lay 0 3 33")
                .row("deal 0", 1, 0, 1, 0, 4, 8).row("deal 1", 1, 1, 2, 0, 0, 0).row("noted 0 2", 22, 1, -1).row("noted 0 3", -1, -1, 33)
                .does("put 2 23").row("noted 0 2", 22, 1, -1).does("deal 0 1 = 0, deal 1 1 = 1");
        // doomed: all of it stays
        book.at(TERMS, sentence).does("put 6 6, begin 0, begin 1, abort 1, put 6 7, retry 1, read 1 0 = 0, lay 1 5 55, lay 0 0 10",
                "commit 0 2 = 3")
                .row("deal 1", 2, 2, 2, 1, 1, 32).row("noted 1 0", 0, 0, -1).row("noted 1 5", -1, -1, 55);
        // sent: all of it stays
        book.at(TERMS, sentence).does("put 6 6, begin 0, abort 0, put 6 7, retry 0, read 0 6 = 7, lay 0 7 9999, send 0")
                .row("deal 0", 3, 2, 1, 1, 64, 128).row("noted 0 6", 7, 2, -1).row("noted 0 7", -1, -1, 9999);
        // what it read and wrote both: each is kept
        book.at(TERMS, sentence).does("put 0 4, begin 2, read 2 0, lay 2 0 0").row("noted 2 0", 4, 1, 0).row("deal 2", 1, 1, 1, 0, 1, 1);
    }

    private void lost() {
        String sentence = "A FREE one may be LOST";
        Run first = book.at(TERMS, sentence);
        for (int d = 0; d < 6; d++) {
            first.does("deal " + d + " 2 = 0, deal " + d + " 3 = 0, deal " + d + " 4 = 0, deal " + d + " 5 = 0, deal " + d + " 6 = 0");
        }
        book.at(TERMS, sentence).does("put 1 1, begin 4, begin 3, read 3 1, lay 3 2 2, abort 3 = 1")
                .row("deal 3", 0, 0, 2, 0, 0, 0, 1).row("noted 3 1", -1, -1, -1).row("noted 3 2", -1, -1, -1)
                .does("retry 3 = 1, abort 3, retry 3 = 2, read 3 1, lay 3 1 1, abort 3").row("deal 3", 0, 0, 2, 2, 0, 0, 1)
                .does("retry 3 = 3, deal 3 6 = 0, commit 3 0 = 2").row("deal 3", 0, 0, 0, 0, 0, 0, 0);
        // behind begin() nothing is kept of what it was when it was lost
        book.at(TERMS, sentence).does("begin 0, abort 0, retry 0, abort 0, begin 0 = 2").row("deal 0", 1, 0, 2, 0, 0, 0, 0);
    }

    private void stubborn() {
        String sentence = "STUBBORN: TRIES are LIMIT";
        book.at(TERMS, sentence).does("count 8 = 3, begin 0, abort 0, retry 0 = 1, abort 0, retry 0 = 2, deal 0 7 = 0, abort 0",
                "retry 0 = 3",
                "deal 0 7 = 1, abort 0, deal 0 7 = 1, retry 0 = 4, deal 0 7 = 1, limit 4 = 3, deal 0 7 = 1, limit 5 = 4, deal 0 7 = 0");
        book.at(TERMS, sentence).does("limit 0 = OUTSIDE, limit 10 = OUTSIDE, count 8 = 3, limit 1 = 3, begin 0, deal 0 7 = 0",
                "deal 1 7 = 0",
                "abort 0, deal 0 7 = 0, retry 0 = 1, deal 0 7 = 1, commit 0 1, deal 0 7 = 0");
        Run most = book.at(TERMS, sentence).does("limit 9 = 3, begin 2");
        for (int n = 1; n <= 9; n++) {
            most.does("abort 2, retry 2 = " + n + ", deal 2 7 = " + (n < 9 ? 0 : 1));
        }
        most.does("begin 3, read 2 0, send 2, deal 2 7 = 1");
    }

    private void read() {
        String sentence = "READ by an OPEN DEAL";
        // of its writes, whether it was read ahead of that or not: nothing is noted then
        book.at(TERMS, sentence).does("put 0 9999, begin 0, lay 0 0 0, read 0 0 = 0, deal 0 4 = 0").row("noted 0 0", -1, -1, 0)
                .does("lay 0 0 5, read 0 0 = 5, deal 0 4 = 0");
        book.at(TERMS, sentence).does("put 7 1, begin 0, read 0 7 = 1, lay 0 7 2, read 0 7 = 2, put 7 3, read 0 7 = 2")
                .row("noted 0 7", 1, 1, 2);
        // of its reads: as it was then, also if it was 0 then
        book.at(TERMS, sentence).does("begin 0, read 0 7 = 0, put 7 3, read 0 7 = 0, put 7 4, read 0 7 = 0, deal 0 4 = 128")
                .row("noted 0 7", 0, 0, -1);
        // else as it is now, not as it was when the deal began
        book.at(TERMS, sentence).does("put 0 1, begin 0, put 0 2, read 0 0 = 2, deal 0 4 = 1").row("noted 0 0", 2, 2, -1);
        // what another deal has laid is not seen
        book.at(TERMS, sentence).does("begin 0, begin 1, lay 1 3 9, read 0 3 = 0, commit 1 1 = 1, read 0 3 = 0, retry 0 = NOT")
                .does("abort 0, retry 0 = 1, read 0 3 = 9").row("noted 0 3", 9, 1, -1);
        Run every = book.at(TERMS, sentence).does("begin 5");
        for (int i = 0; i < 8; i++) {
            every.does("put " + i + " " + 10 * i + ", read 5 " + i + " = " + 10 * i + ", deal 5 4 = " + ((2 << i) - 1));
        }
    }

    private void stale() {
        String sentence = "STALE: of a DEAL";
        book.at(TERMS, sentence).does("begin 0, read 0 0, read 0 7, read 0 3, deal 0 8 = 0, put 0 0, deal 0 8 = 1, put 7 1, deal 0 8 = 129",
                "put 7 0, deal 0 8 = 129, put 1 1, deal 0 8 = 129, put 3 0, deal 0 8 = 137");
        // by the stamp that was noted, not by the start, nor by the value
        book.at(TERMS, sentence).does("begin 0, put 0 5, read 0 0 = 5, deal 0 8 = 0, put 0 5, deal 0 8 = 1");
        // what it only wrote is never stale; one that is free has none
        book.at(TERMS, sentence).does("begin 0, lay 0 0 1, put 0 5, deal 0 8 = 0, read 0 1, put 1 1, deal 0 8 = 2, abort 0, deal 0 8 = 0",
                "retry 0, deal 0 8 = 0");
        // what it read and then wrote too
        book.at(TERMS, sentence).does("begin 0, read 0 4, lay 0 4 1, put 4 5, deal 0 8 = 16");
    }

    private void crossed() {
        String sentence = "CROSSED: those of its READS";
        // the commit whose number is its start is not after it, the next one is
        book.at(TERMS, sentence).does("put 0 1, put 7 2, begin 0, deal 0 1 = 2, read 0 0, read 0 7, deal 0 9 = 0, put 7 3, deal 0 9 = 128",
                "put 0 4, deal 0 9 = 129");
        // ahead of the read or behind it
        book.at(TERMS, sentence).does("begin 0, put 0 1, put 7 1, deal 0 9 = 0, read 0 0, deal 0 9 = 1, read 0 7, deal 0 9 = 129",
                "deal 0 8 = 0, put 0 2, deal 0 9 = 129, deal 0 8 = 1");
        // a deal's commit and a settled one cross as well; what is only written is not crossed
        book.at(TERMS, sentence).does("begin 0, read 0 1, read 0 6, lay 0 3 3, begin 1, lay 1 1 1, lay 1 3 1, commit 1 0 = 1, deal 0 9 = 2",
                "begin 1, lay 1 6 1, send 1, vote 0, vote 1, deal 0 9 = 2, settle = 2, deal 0 9 = 66");
        // the start is a new one behind retry()
        book.at(TERMS, sentence).does("begin 0, put 2 2, read 0 2, deal 0 9 = 4, abort 0, deal 0 9 = 0, retry 0, read 0 2, deal 0 9 = 0");
    }

    private void rivals() {
        String sentence = "RIVALS: all other OPEN DEALS";
        // not itself; not those that only write it; open ones alone
        book.at(TERMS, sentence).told("begin 0;begin 1;begin 2;begin 3;begin 4;begin 5").does(
                "read 0 3, lay 0 3 1, deal 0 10 = 0, lay 1 3 1, deal 0 10 = 0, deal 1 10 = 1, read 5 3, deal 0 10 = 32, deal 1 10 = 33",
                "read 2 3, deal 0 10 = 36, read 3 4, deal 0 10 = 36, lay 0 4 4, deal 0 10 = 44, abort 2, deal 0 10 = 40, retry 2",
                "deal 0 10 = 40",
                "read 2 4, deal 0 10 = 44, send 5, deal 0 10 = 12, deal 5 10 = 0");
        book.at(TERMS, sentence).told("begin 0;begin 1;begin 2").does(
                "read 1 0, read 2 1, lay 1 1 1, lay 2 0 0, lay 0 0 0, deal 0 10 = 2, deal 2 10 = 2, commit 0 2 = 1, deal 1 0 = 2",
                "deal 2 10 = 0, deal 1 10 = 4");
        // all five
        book.at(TERMS, sentence).told("begin 0;begin 1;begin 2;begin 3;begin 4;begin 5").does(
                "read 0 7, read 1 7, read 2 7, read 3 7, read 4 7, read 5 7, lay 3 7 7, deal 3 10 = 55, deal 0 10 = 0");
    }

    private void fails() {
        String sentence = "It FAILS: it is FREE, and LOST";
        String[] ways = {
            "commit 0 0 = STALE", "commit 0 1 = STALE", "commit 0 2 = STALE", "abort 0 = 0", "sweep = 1",
            "send 0 = 1, vote 0 = 0, vote 1 = 1, settle = STALE",
        };
        for (String way : ways) {
            book.at(TERMS, sentence).does("begin 0 = 1, read 0 0, lay 0 1 5, put 0 1").does(way)
                    .row("deal 0", 0, 0, 1, 0, 0, 0, 1, 0, 0, 0, 0, -1)
                    .does("count 0 = 1, count 1 = 0, count 4 = 1, item 1 1 = 0, retry 0 = 1");
        }
        book.at(TERMS, sentence).does("begin 0, put 0 1, read 0 0, commit 0 0 = VAIN, deal 0 0 = 0, deal 0 6 = 1");
        book.at(TERMS, sentence).does("begin 1, begin 0, read 1 0, lay 0 0 1, commit 0 2 = YIELDS, deal 0 0 = 0, deal 0 6 = 1");
    }

    private void commitOfADeal() {
        String sentence = "COMMIT of a DEAL";
        // with nothing read and nothing written
        book.at(TERMS, sentence).does("begin 0, commit 0 0 = 1, count 0 = 1, count 10 = 0").row("log 1", 0, 1, 0, 0, 0, 0)
                .row("deal 0", 0, 0, 0, 0, 0, 0, 0);
        // with all items
        Run most = book.at(TERMS, sentence).does("begin 5");
        for (int i = 0; i < 8; i++) {
            most.does("read 5 " + i + " = 0, lay 5 " + i + " " + (9999 - i));
        }
        most.does("item 0 0 = 0, item 0 1 = 0, commit 5 1 = 1").row("log 1", 5, 1, 0, 255, 255, 1).row("deal 5", 0, 0, 0, 0, 0, 0, 0);
        for (int i = 0; i < 8; i++) {
            most.row("item " + i, 9999 - i, 1).row("logged 1 " + i, 0, 9999 - i);
        }
        // what it only read keeps its stamp
        book.at(TERMS, sentence).does("put 0 5, begin 2, abort 2, retry 2, read 2 0, lay 2 7 7, commit 2 2 = 2, item 0 1 = 1, item 7 1 = 2",
                "item 6 1 = 0")
                .row("log 2", 2, 1, 1, 1, 128, 2).row("logged 2 0", 1, -1).row("logged 2 7", -1, 7).does("retry 2 = NOT, deal 2 6 = 0");
    }

    private void backward() {
        String sentence = "CHECKED by a WAY: 0 BACKWARD";
        book.at(TERMS, sentence).does("begin 0, commit 0 -1 = OUTSIDE, commit 0 3 = OUTSIDE, deal 0 0 = 1, commit 0 0 = 1");
        book.at(TERMS, sentence).does("put 0 1, begin 0, read 0 0, put 1 1, commit 0 0 = 3");
        book.at(TERMS, sentence).does("begin 0, put 0 1, read 0 0, commit 0 0 = VAIN, count 4 = 1, count 5 = 1");
        book.at(TERMS, sentence).does("begin 0, read 0 0, put 0 1, commit 0 0 = STALE, count 4 = 1, count 5 = 0");
        // one that is stale is enough, beside one that is crossed alone
        book.at(TERMS, sentence).does("begin 0, put 0 1, read 0 0, read 0 7, put 7 1, commit 0 0 = STALE, count 5 = 0");
        book.at(TERMS, sentence).does("begin 0, lay 0 0 1, put 0 1, commit 0 0 = 2");
        // rivals do not count
        book.at(TERMS, sentence).does("begin 1, begin 0, read 1 0, lay 0 0 1, commit 0 0 = 1, deal 1 0 = 1");
    }

    private void byStamps() {
        String sentence = "1 by STAMPS";
        book.at(TERMS, sentence).does("begin 0, put 0 1, read 0 0, deal 0 9 = 1, commit 0 1 = 2");
        book.at(TERMS, sentence).does("begin 0, read 0 7, put 7 0, commit 0 1 = STALE, count 4 = 1, count 5 = 0, count 6 = 0");
        book.at(TERMS, sentence).does("begin 0, read 0 0, read 0 7, put 6 0, commit 0 1 = 2");
        book.at(TERMS, sentence).does("begin 1, begin 0, read 1 0, lay 0 0 1, commit 0 1 = 1, deal 1 0 = 1");
    }

    private void forward() {
        String sentence = "2 FORWARD";
        // stale goes ahead of yielding; crossed alone does not count
        book.at(TERMS, sentence).does("begin 1, begin 0, read 1 0, lay 0 0 1, read 0 5, put 5 5, commit 0 2 = STALE, count 6 = 0",
                "deal 1 0 = 1");
        book.at(TERMS, sentence).does("begin 0, put 5 5, read 0 5, commit 0 2 = 2");
        // no rival; one that is younger; one that is older
        book.at(TERMS, sentence).does("begin 0, begin 1, lay 0 0 1, commit 0 2 = 1, deal 1 0 = 1, count 3 = 0");
        book.at(TERMS, sentence).does("begin 0, begin 1, lay 0 0 1, read 1 0, commit 0 2 = 1, deal 1 0 = 2, count 3 = 1, count 4 = 0");
        book.at(TERMS, sentence).does("begin 1, begin 0, lay 0 0 1, read 1 0, commit 0 2 = YIELDS, deal 1 0 = 1, count 3 = 0, count 6 = 1",
                "count 5 = 0, item 0 1 = 0");
        // all of them are doomed, the others are not; one older among them, wherever it stands, is enough
        book.at(TERMS, sentence).told("begin 3;begin 0;begin 1;begin 2;begin 4;begin 5").does(
                "read 0 0, read 1 7, read 5 0, read 4 1, lay 2 1 1, lay 3 0 1, lay 3 7 1, commit 3 2 = 1",
                "deal 0 0 = 2, deal 1 0 = 2, deal 2 0 = 1, deal 3 0 = 0, deal 4 0 = 1, deal 5 0 = 2");
        book.at(TERMS, sentence).told("begin 5;begin 3;begin 0;begin 1").does(
                "read 0 0, read 1 0, read 5 0, lay 3 0 1, commit 3 2 = YIELDS, count 3 = 0");
        book.at(TERMS, sentence).told("begin 0;begin 3;begin 4;begin 5").does(
                "read 0 0, read 4 0, read 5 0, lay 3 0 1, commit 3 2 = YIELDS, count 3 = 0");
    }

    /** Deal 1 is the older one and reads what deal 0 writes; LIMIT 2, the tries of each. */
    private void forwardByTries() {
        int[][] cases = { // tries of the writer, tries of the older reader, whether the writer yields
            {0, 0, 1}, {1, 0, 1}, {1, 1, 1}, {2, 0, 0}, {2, 1, 0}, {2, 2, 1}, {3, 2, 1}, {0, 2, 1}, {1, 2, 1}, {9, 1, 0},
        };
        for (int[] c : cases) {
            Run run = book.at(TERMS, "2 FORWARD").does("limit 2, begin 1 = 1, begin 0 = 2");
            again(run, 0, c[0]);
            again(run, 1, c[1]);
            run.does("lay 0 0 1, read 1 0, commit 0 2 = " + (c[2] == 1 ? "YIELDS" : "1") + ", deal 1 0 = " + (c[2] == 1 ? 1 : 2));
        }
        int[][] younger = { // tries of the writer, tries of the younger reader, whether the writer yields
            {0, 0, 0}, {0, 1, 0}, {0, 2, 1}, {1, 2, 1}, {2, 2, 0}, {2, 9, 0}, {2, 1, 0},
        };
        for (int[] c : younger) {
            Run run = book.at(TERMS, "2 FORWARD").does("limit 2, begin 0 = 1, begin 1 = 2");
            again(run, 0, c[0]);
            again(run, 1, c[1]);
            run.does("lay 0 0 1, read 1 0, commit 0 2 = " + (c[2] == 1 ? "YIELDS" : "1") + ", deal 1 0 = " + (c[2] == 1 ? 1 : 2));
        }
    }

    private static void again(Run run, int deal, int tries) {
        for (int t = 1; t <= tries; t++) {
            run.does("abort " + deal + ", retry " + deal + " = " + t);
        }
    }

    private void ifItDidNotFail() {
        for (int way = 0; way <= 2; way++) {
            book.at(TERMS, "If it did not FAIL, it COMMITS").does("put 3 3, begin 4, read 4 3, lay 4 4 44, commit 4 " + way + " = 2")
                    .does("item 4 0 = 44, item 4 1 = 2, log 2 5 = " + way + ", deal 4 0 = 0, deal 4 6 = 0, count 4 = 0");
        }
    }

    private void tickets() {
        String sentence = "SENT: it gets a TICKET";
        book.at(TERMS, sentence).does("begin 0, begin 5, deal 0 11 = NONE, send 5 = 1, send 5 = NOT, send 0 = 2, deal 5 11 = 1",
                "deal 0 11 = 2",
                "vote 0, vote 1, settle = 1, deal 5 11 = NONE, deal 0 11 = 2, begin 5, send 5 = 3, vote 0, vote 1, settle = 2, vote 0",
                "vote 1, settle = 3",
                "count 2 = 0, begin 3, send 3 = 4");
        // from when all was as at first
        book.at(TERMS, sentence).does("begin 0, send 0 = 1, begin 1, send 1 = 2", "text all;begin 2;send 2", "tell = 3, deal 2 11 = 1",
                "deal 1 11 = NONE");
        // one that failed gets a new one
        book.at(TERMS, sentence).does("begin 0, read 0 0, put 0 1, send 0 = 1, vote 0 = 0, vote 1 = 1, settle = STALE, retry 0 = 1",
                "deal 0 11 = NONE, send 0 = 2");
    }

    private void validators() {
        String sentence = "VALIDATORS 0 (of ITEMS 0 .. 3)";
        book.at(TERMS, sentence).does("begin 0, send 0, vote -1 = UNKNOWN, vote 2 = UNKNOWN, vote 0 = 1, vote 0 = NOT, vote 1 = 1",
                "vote 1 = NOT");
        // each item is of one validator, by what is stale and by what was let pass
        for (int i = 0; i < 8; i++) {
            String votes = i <= 3 ? "vote 0 = 0, vote 1 = 1" : "vote 0 = 1, vote 1 = 0";
            book.at(TERMS, sentence).does("begin 0, read 0 " + i + ", put " + i + " 1, send 0").does(votes);
            book.at(TERMS, sentence).does("begin 0, begin 1, lay 0 " + i + " 1, read 1 " + i + ", send 0, send 1, vote 0 = 1, vote 1 = 1")
                    .does(votes);
        }
        // by tickets, not by numbers of deals
        book.at(TERMS, sentence).does("begin 0, begin 5, read 0 0, put 0 1, send 5, send 0, vote 0 = 1, ballot 0 5 = 1, ballot 0 0 = NONE",
                "vote 0 = 0, ballot 0 0 = 0");
        // of a less ticket alone: neither its own writes nor those of one behind it
        book.at(TERMS, sentence).does("begin 0, begin 1, read 0 0, lay 0 0 1, lay 1 0 2, send 0, send 1, vote 0 = 1, vote 0 = 1");
        // any of those ahead of it, the first, one between, the last
        for (int i = 0; i <= 2; i++) {
            book.at(TERMS, sentence).told("begin 0;begin 1;begin 2;begin 3;write 0 0 1;write 1 1 1;write 2 2 1")
                    .does("read 3 " + i + ", send 2, send 0, send 1, send 3",
                    "vote 0 = 1, vote 0 = 1, vote 0 = 1, vote 0 = 0");
        }
        // one on which it voted no does not count, though the other one voted yes
        book.at(TERMS, sentence).does("begin 0, begin 1, read 0 3, put 3 1, lay 0 2 2, lay 0 6 6, read 1 2, read 1 6, send 0, send 1",
                "vote 0 = 0, vote 1 = 1, vote 0 = 1, vote 1 = 0");
        // one that is open, or settled already, does not count either
        book.at(TERMS, sentence).does("begin 0, begin 1, begin 2, lay 0 2 2, read 1 2, lay 2 2 2, send 0, vote 0 = 1, vote 1 = 1, send 1",
                "settle = 1",
                "vote 0 = 0, vote 1 = 1, settle = STALE, retry 1, read 1 2 = 2, send 1, vote 0 = 1");
    }

    private void settled() {
        String sentence = "SETTLED: the SENT DEAL of the least TICKET";
        book.at(TERMS, sentence).does("settle = NOT, begin 0, settle = NOT, send 0, settle = NOT, vote 0 = 1, settle = NOT, vote 1 = 1",
                "settle = 1, settle = NOT");
        book.at(TERMS, sentence).does("begin 0, send 0, vote 1 = 1, settle = NOT, vote 0 = 1, settle = 1");
        // votes on one behind it do not count for it
        book.at(TERMS, sentence).does("begin 0, begin 1, send 1, send 0, vote 0, vote 0, settle = NOT, vote 1, settle = 1, deal 1 0 = 0",
                "deal 0 0 = 3, settle = NOT");
        // one no is enough, of either
        book.at(TERMS, sentence).does("begin 0, read 0 0, read 0 7, put 0 1, send 0, vote 0 = 0, vote 1 = 1, settle = STALE, count 4 = 1",
                "count 5 = 0, deal 0 6 = 1");
        book.at(TERMS, sentence).does("begin 0, read 0 0, read 0 7, put 7 1, send 0, vote 0 = 1, vote 1 = 0, settle = STALE, count 4 = 1",
                "count 5 = 0, deal 0 6 = 1");
        book.at(TERMS, sentence).does("begin 0, read 0 0, read 0 7, put 7 1, put 0 1, send 0, vote 0 = 0, vote 1 = 0, settle = STALE",
                "count 4 = 1, count 5 = 0");
        // in vain: what it was refused for was never written
        book.at(TERMS, sentence).does("begin 0, begin 1, read 0 0, lay 0 7 7, read 1 7, put 0 1, send 0, send 1, vote 0 = 0, vote 1 = 1",
                "vote 0 = 1, vote 1 = 0",
                "settle = STALE, settle = VAIN, count 4 = 2, count 5 = 1, deal 1 6 = 1, item 7 1 = 0");
        // it is stale by what was settled ahead of it
        book.at(TERMS, sentence).does("begin 0, begin 1, lay 0 7 7, read 1 7, send 0, send 1, vote 0, vote 1, vote 0 = 1, vote 1 = 0",
                "settle = 1, settle = STALE, count 5 = 0");
        book.at(TERMS, sentence).does("begin 0, abort 0, retry 0, read 0 1, lay 0 1 11, send 0, vote 0, vote 1, settle = 1, item 1 0 = 11",
                "item 1 1 = 1, deal 0 6 = 0, deal 0 2 = 0, deal 0 3 = 0")
                .row("log 1", 0, 1, 1, 2, 2, 3);
    }

    private void toldAs() {
        String sentence = "A DEAL that FAILED is told as";
        book.at(TERMS, sentence).does("begin 0, read 0 0, put 0 1, commit 0 1 = -11, count 4 = 1");
        book.at(TERMS, sentence).does("begin 0, put 0 1, read 0 0, commit 0 0 = -12, count 4 = 1");
        book.at(TERMS, sentence).does("begin 1, begin 0, read 1 0, lay 0 0 1, commit 0 2 = -13, count 4 = 1");
        // it is not refused: it has changed
        book.at(TERMS, sentence).does("begin 0, read 0 0, put 0 1, commit 0 1 = STALE, commit 0 1 = NOT, retry 0 = 1");
        book.at(TERMS, "NONE is -1").does("noted 0 0 0 = -1, deal 0 11 = -1, put 0 1, log 1 0 = -1, logged 1 1 1 = -1, begin 0, send 0",
                "ballot 0 0 = -1", "text all", "fault = -1");
    }
}
