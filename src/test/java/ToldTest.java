/** Promises 1 to 8: a new object, the text, items, the limit. */
public final class ToldTest {
    private static final Checks CHECKS = new Checks();
    private static final int[] EXTREMES = {Integer.MIN_VALUE, -1, Integer.MAX_VALUE};

    public static void main(String[] args) {
        promise1NewObject();
        promise2Write();
        promise3Erase();
        promise4FaultOfTokens();
        promise4FaultOfNumbers();
        promise4FaultOfClauses();
        promise5Tell();
        promise5TellDoesEveryKindOfClause();
        promise5TellPassesOverWhatWouldBeRefused();
        promise5TellAll();
        promise5TellAllForgetsTheLog();
        promise6Item();
        promise7Put();
        promise8Limit();
        CHECKS.end("ToldTest");
    }

    private static void promise1NewObject() {
        LateChecks x = new LateChecks();
        int[] counts = {0, 0, 0, 0, 0, 0, 0, 0, 3, 0, 0};
        for (int what = 0; what < counts.length; what++) {
            CHECKS.due("1: count(" + what + ")", x.count(what), counts[what]);
        }
        for (int d = 0; d < 6; d++) {
            for (int what = 0; what <= 10; what++) {
                CHECKS.due("1: deal(" + d + ", " + what + ")", x.deal(d, what), 0);
            }
            CHECKS.due("1: deal(" + d + ", 11)", x.deal(d, 11), LateChecks.NONE);
        }
        for (int i = 0; i < 8; i++) {
            CHECKS.due("1: item(" + i + ", 0)", x.item(i, 0), 0);
            CHECKS.due("1: item(" + i + ", 1)", x.item(i, 1), 0);
            for (int what = 0; what <= 2; what++) {
                CHECKS.due("1: noted(0, " + i + ", " + what + ")", x.noted(0, i, what), LateChecks.NONE);
            }
        }
        CHECKS.due("1: fault()", x.fault(), 0);
        CHECKS.due("1: log(1, 0)", x.log(1, 0), LateChecks.UNKNOWN);
    }

    private static void promise2Write() {
        LateChecks x = new LateChecks();
        CHECKS.due("2: write(-1)", x.write(-1), LateChecks.OUTSIDE);
        CHECKS.due("2: write(256)", x.write(256), LateChecks.OUTSIDE);
        CHECKS.due("2: count(9) behind refused letters", x.count(9), 0);
        CHECKS.due("2: write(0)", x.write(0), 1);
        CHECKS.due("2: write(255)", x.write(255), 2);
        for (int n = 3; n <= 200; n++) {
            CHECKS.due("2: write() of letter " + n, x.write(' '), n);
        }
        CHECKS.due("2: write() of letter 201", x.write(' '), LateChecks.FULL);
        CHECKS.due("2: write(256) when full", x.write(256), LateChecks.OUTSIDE);
        CHECKS.due("2: count(9) when full", x.count(9), 200);
        for (int letter : EXTREMES) {
            CHECKS.due("2: write(" + letter + ")", x.write(letter), LateChecks.OUTSIDE);
        }
    }

    private static void promise3Erase() {
        LateChecks x = new LateChecks();
        CHECKS.due("3: erase() of nothing", x.erase(), 0);
        Checks.write(x, "begin 0");
        CHECKS.due("3: erase()", x.erase(), 7);
        CHECKS.due("3: count(9)", x.count(9), 0);
        CHECKS.due("3: fault() of the empty text", x.fault(), 0);
        Checks.write(x, " ".repeat(200));
        CHECKS.due("3: erase() when full", x.erase(), 200);
        CHECKS.due("3: write() then", x.write('a'), 1);
        LateChecks y = new LateChecks();
        Checks.write(y, "item 011111");
        y.erase();
        Checks.write(y, "item 0");
        CHECKS.due("3: letters of before do not come back", y.fault(), 6);
    }

    private static void fault(String letters, int want) {
        LateChecks x = new LateChecks();
        Checks.write(x, letters);
        CHECKS.due("4: fault() of \"" + letters + "\"", x.fault(), want);
        if (want != LateChecks.NONE) {
            CHECKS.due("5: tell() of \"" + letters + "\"", x.tell(), LateChecks.NOT);
        }
        LateChecks twin = new LateChecks();
        Checks.write(twin, letters);
        CHECKS.due("4, 5: nothing has changed", Run.seen(x).equals(Run.seen(twin)) ? 1 : 0, 1);
    }

    private static void promise4FaultOfTokens() {
        fault("", 0);
        fault("   ", 3);
        fault("all", LateChecks.NONE);
        fault("  all  ", LateChecks.NONE);
        fault("al", 0);
        fault("alll", 0);
        fault("  bull", 2);
        fault("All", 0);
        fault("aLl", 0);
        fault("all.", 3);
        fault("all\t", 3);
        fault("\tall", 0);
        fault("all" + (char) 255, 3);
        fault("all" + (char) 0, 3);
        fault("all all", 4);
        fault("all 1", 4);
        fault("all1", 3);
        fault("1 all", 0);
        fault(";", 0);
        fault("a ll", 0);
        fault("put 0 1", 0);
        fault("lay 0 0 1", 0);
        fault("al`l", 0);
        fault("allz", 0);
        fault("zall", 0);
        fault("bll", 0);
        fault("bend 0", 0);
        fault("wread 0 0", 0);
        fault("sene 0", 0);
        fault("all{", 3);
        fault("limit :", 6);
        fault("limit /", 6);
    }

    private static void promise4FaultOfNumbers() {
        fault("item 7 9999", LateChecks.NONE);
        fault("item 8 0", 5);
        fault("item 0 0000", LateChecks.NONE);
        fault("item 0007 1", LateChecks.NONE);
        fault("item 00007 1", 5);
        fault("item 0 00001", 7);
        fault("item 0 10000", 7);
        fault("item 0 99999999999999999999", 7);
        fault("item 0 -1", 7);
        fault("item", 4);
        fault("item ", 5);
        fault("item 0", 6);
        fault("item 0  ", 8);
        fault("item 0 1 2", 9);
        fault("item x 1", 5);
        fault("item;0 1", 4);
        fault("item0 1", LateChecks.NONE);
        fault("item 01", 7);
        fault("item 0 1x", 8);
        fault("limit 1", LateChecks.NONE);
        fault("limit 9", LateChecks.NONE);
        fault("limit 0", 6);
        fault("limit 10", 6);
        fault("limit", 5);
        fault("limit 1 1", 8);
        fault("begin 0", LateChecks.NONE);
        fault("begin 5", LateChecks.NONE);
        fault("begin 6", 6);
        fault("begin", 5);
        fault("begin 0 0", 8);
        fault("read 5 7", LateChecks.NONE);
        fault("read 6 7", 5);
        fault("read 5 8", 7);
        fault("read 5", 6);
        fault("read 5 7 1", 9);
        fault("write 5 7 9999", LateChecks.NONE);
        fault("write 6 7 9999", 6);
        fault("write 5 8 9999", 8);
        fault("write 5 7 10000", 10);
        fault("write 5 7", 9);
        fault("write 5 7 1 1", 12);
        fault("send 5", LateChecks.NONE);
        fault("send 6", 5);
        fault("send", 4);
        fault("send 0 0", 7);
    }

    private static void promise4FaultOfClauses() {
        fault("all;all", LateChecks.NONE);
        fault(" all ; all ", LateChecks.NONE);
        fault("all;", 4);
        fault("all; ", 5);
        fault("all;;all", 4);
        fault(";all", 0);
        fault("all,all", 3);
        fault("begin 0;begin 6;begin 7", 14);
        fault("begin 0;item 0", 14);
        String most = "all" + ";all".repeat(23);
        fault(most, LateChecks.NONE);
        fault(most + ";", most.length());
        fault(most + ";all", most.length());
        fault(most + "  ;all", most.length() + 2);
        fault(most + " ", LateChecks.NONE);
        fault(most + " all", most.length() + 1);
        fault("item 0 1" + " ".repeat(192), LateChecks.NONE);
        fault("item 0" + " ".repeat(194), 200);
        fault(" ".repeat(197) + "all", LateChecks.NONE);
        fault(" ".repeat(199) + "a", 199);
    }

    private static void promise5Tell() {
        LateChecks x = new LateChecks();
        CHECKS.due("5: tell() of nothing", x.tell(), LateChecks.NOT);
        CHECKS.due("5: tell() of one", Checks.tell(x, "item 2 30"), 1);
        CHECKS.due("5: the text is empty then", x.count(9), 0);
        CHECKS.due("5: tell() again", x.tell(), LateChecks.NOT);
        CHECKS.due("5: it is done", x.item(2, 0), 30);
        CHECKS.due("5: it is done once", x.count(0), 1);
        CHECKS.due("5: a fault behind a good clause", Checks.tell(x, "item 2 31;item 9 1"), LateChecks.NOT);
        CHECKS.due("5: nothing of it is done", x.item(2, 0), 30);
        CHECKS.due("5: the text stays", x.count(9), 18);
        CHECKS.due("5: 24 clauses", Checks.tell(x, "item0 1" + ";item1 2".repeat(23)), 24);
        CHECKS.due("5: all of them are done", x.count(0), 25);
        CHECKS.due("5: in their order", Checks.tell(x, "item 3 1;item 3 2;item 3 0003"), 3);
        CHECKS.due("5: the last one stays", x.item(3, 0), 3);
        CHECKS.due("5: its stamp", x.item(3, 1), 28);
    }

    private static void promise5TellDoesEveryKindOfClause() {
        LateChecks x = new LateChecks();
        int told = Checks.tell(x, "limit 5;item 4 44;begin 2;begin 5;read 2 4;write 5 7 77;write 5 6 66;send 5");
        CHECKS.due("5: tell()", told, 8);
        CHECKS.due("5: limit", x.count(8), 5);
        CHECKS.due("5: item", x.item(4, 0), 44);
        CHECKS.due("5: item is a commit of no deal", x.log(1, 5), 4);
        CHECKS.due("5: begin", x.deal(2, 2), 1);
        CHECKS.due("5: begin counts", x.count(7), 2);
        CHECKS.due("5: read", x.deal(2, 4), 16);
        CHECKS.due("5: read notes", x.noted(2, 4, 0), 44);
        CHECKS.due("5: write", x.deal(5, 5), 192);
        CHECKS.due("5: write keeps the value", x.noted(5, 7, 2), 77);
        CHECKS.due("5: send", x.deal(5, 0), 3);
        CHECKS.due("5: send gives a ticket", x.deal(5, 11), 1);
    }

    private static void promise5TellPassesOverWhatWouldBeRefused() {
        LateChecks x = new LateChecks();
        int told = Checks.tell(x, "read 0 0;write 0 0 1;send 0;begin 0;begin 0;send 0;send 0;item 1 1;begin 1");
        CHECKS.due("5: clauses that are not done count too", told, 9);
        CHECKS.due("5: one deal is sent", x.count(2), 1);
        CHECKS.due("5: by the first ticket", x.deal(0, 11), 1);
        CHECKS.due("5: nothing was read", x.deal(0, 4), 0);
        CHECKS.due("5: nothing was laid", x.deal(0, 5), 0);
        CHECKS.due("5: no item while a deal is sent", x.item(1, 0), 0);
        CHECKS.due("5: what comes behind is done", x.deal(1, 2), 2);
    }

    private static void promise5TellAll() {
        LateChecks x = Checks.told("limit 2;item 0 5;item 7 6;begin 0;begin 1;begin 2;begin 3;read 0 0;write 1 0 9");
        x.abort(0);
        x.retry(0);
        x.read(0, 0);
        x.commit(1, 2);
        x.abort(2);
        Checks.tell(x, "begin 4;begin 5;item 2 2;read 4 2;read 5 3;read 3 3;write 5 3 3");
        CHECKS.due("5: one fails in vain", x.commit(4, 0), LateChecks.VAIN);
        CHECKS.due("5: one yields", x.commit(5, 2), LateChecks.YIELDS);
        x.send(3);
        x.vote(0);
        CHECKS.due("5: all", Checks.tell(x, "all"), 1);
        CHECKS.due("5: all is as at first", Run.seen(x).equals(Run.seen(new LateChecks())) ? 1 : 0, 1);
        CHECKS.due("5: nothing is in the log", x.log(1, 0), LateChecks.UNKNOWN);
        CHECKS.due("5: nothing came behind", x.behind(2, 1), LateChecks.UNKNOWN);
        CHECKS.due("5: no deal is lost", x.retry(2), LateChecks.NOT);
        CHECKS.due("5: commits begin anew", x.put(1, 1), 1);
        CHECKS.due("5: the log begins anew", x.log(1, 4), 2);
        CHECKS.due("5: nothing is logged of before", x.logged(1, 0, 1), LateChecks.NONE);
        CHECKS.due("5: ages begin anew", x.begin(3), 1);
        CHECKS.due("5: tickets begin anew", x.send(3), 1);
        CHECKS.due("5: votes begin anew", x.ballot(0, 3), LateChecks.NONE);
        CHECKS.due("5: clauses behind all are done", Checks.tell(x, "begin 1;all;begin 4"), 3);
        CHECKS.due("5: those ahead of it are undone", x.deal(1, 0), 0);
        CHECKS.due("5: the one behind it stands", x.deal(4, 2), 1);
    }

    /** What a commit of before was logged with must not shine through. */
    private static void promise5TellAllForgetsTheLog() {
        LateChecks x = Checks.told("begin 0;begin 1");
        x.abort(1);
        x.retry(1);
        Checks.tell(x, "read 1 0;read 1 5;write 1 1 11;write 1 5 55");
        CHECKS.due("5: commit(1, 2)", x.commit(1, 2), 1);
        Checks.tell(x, "all;item 1 7");
        int[] logged = {LateChecks.NONE, 0, 0, 0, 2, 4};
        for (int what = 0; what < logged.length; what++) {
            CHECKS.due("5: log(1, " + what + ") behind all", x.log(1, what), logged[what]);
        }
        CHECKS.due("5: logged(1, 0, 0) behind all", x.logged(1, 0, 0), LateChecks.NONE);
        CHECKS.due("5: logged(1, 5, 1) behind all", x.logged(1, 5, 1), LateChecks.NONE);
        CHECKS.due("5: logged(1, 1, 1) behind all", x.logged(1, 1, 1), 7);
        x.put(0, 1);
        CHECKS.due("5: behind(2, 1) behind all", x.behind(2, 1), 0);
    }

    private static void promise6Item() {
        LateChecks x = Checks.told("item 0 5;item 7 9999;item 7 8");
        CHECKS.due("6: item(0, 0)", x.item(0, 0), 5);
        CHECKS.due("6: item(0, 1)", x.item(0, 1), 1);
        CHECKS.due("6: item(7, 0)", x.item(7, 0), 8);
        CHECKS.due("6: item(7, 1)", x.item(7, 1), 3);
        CHECKS.due("6: item(3, 1)", x.item(3, 1), 0);
        CHECKS.due("6: item(8, 2)", x.item(8, 2), LateChecks.UNKNOWN);
        CHECKS.due("6: item(0, 2)", x.item(0, 2), LateChecks.OUTSIDE);
        for (int n : EXTREMES) {
            CHECKS.due("6: item(" + n + ", 0)", x.item(n, 0), LateChecks.UNKNOWN);
            CHECKS.due("6: item(0, " + n + ")", x.item(0, n), LateChecks.OUTSIDE);
        }
    }

    private static void promise7Put() {
        LateChecks x = new LateChecks();
        CHECKS.due("7: put(7, 9999)", x.put(7, 9999), 1);
        CHECKS.due("7: put(0, 0)", x.put(0, 0), 2);
        CHECKS.due("7: its value", x.item(7, 0), 9999);
        CHECKS.due("7: a value that is as it was is stamped too", x.item(0, 1), 2);
        CHECKS.due("7: put(8, 10000)", x.put(8, 10000), LateChecks.UNKNOWN);
        CHECKS.due("7: put(0, 10000)", x.put(0, 10000), LateChecks.OUTSIDE);
        for (int n : EXTREMES) {
            CHECKS.due("7: put(" + n + ", 0)", x.put(n, 0), LateChecks.UNKNOWN);
            CHECKS.due("7: put(0, " + n + ")", x.put(0, n), LateChecks.OUTSIDE);
        }
        CHECKS.due("7: refused puts are no commits", x.count(0), 2);
        int[] logged = {LateChecks.NONE, 0, 0, 0, 128, 4};
        for (int what = 0; what < logged.length; what++) {
            CHECKS.due("7: log(1, " + what + ")", x.log(1, what), logged[what]);
        }
        Checks.tell(x, "begin 0;begin 1;send 1");
        CHECKS.due("7: put(0, 1) while a deal is sent", x.put(0, 1), LateChecks.NOT);
        CHECKS.due("7: put(0, -1) while a deal is sent", x.put(0, -1), LateChecks.OUTSIDE);
        CHECKS.due("7: put(8, 1) while a deal is sent", x.put(8, 1), LateChecks.UNKNOWN);
        x.vote(0);
        x.vote(1);
        x.settle();
        CHECKS.due("7: put(0, 1) when none is sent any more", x.put(0, 1), 4);
    }

    private static void promise8Limit() {
        LateChecks x = new LateChecks();
        CHECKS.due("8: limit(1)", x.limit(1), 3);
        CHECKS.due("8: limit(9)", x.limit(9), 1);
        CHECKS.due("8: limit(0)", x.limit(0), LateChecks.OUTSIDE);
        CHECKS.due("8: limit(10)", x.limit(10), LateChecks.OUTSIDE);
        for (int n : EXTREMES) {
            CHECKS.due("8: limit(" + n + ")", x.limit(n), LateChecks.OUTSIDE);
        }
        CHECKS.due("8: a refused one changes nothing", x.count(8), 9);
        Checks.tell(x, "begin 0");
        x.abort(0);
        x.retry(0);
        CHECKS.due("8: one try of nine", x.deal(0, 7), 0);
        CHECKS.due("8: limit(1)", x.limit(1), 9);
        CHECKS.due("8: it counts at once", x.deal(0, 7), 1);
    }
}
