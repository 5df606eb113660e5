/** Promises 20 to 27: what there is, and what the log tells. */
public final class SeenTest {
    private static final Checks CHECKS = new Checks();

    public static void main(String[] args) {
        promise20Deal();
        promise21Noted();
        promise22Sent();
        promise23Ballot();
        promise24Log();
        promise25Logged();
        promise26Behind();
        promise26BehindByStamps();
        promise27Count();
        longRun();
        CHECKS.end("SeenTest");
    }

    private static void whole(LateChecks x, int deal, int... due) {
        for (int what = 0; what < due.length; what++) {
            CHECKS.due("20: deal(" + deal + ", " + what + ")", x.deal(deal, what), due[what]);
        }
    }

    private static void promise20Deal() {
        LateChecks x = Checks.told("item 0 1;begin 0;begin 1;begin 2;read 0 0;read 0 7;write 1 7 7;read 2 7;read 2 6");
        x.put(7, 70);
        x.put(5, 50);
        x.read(0, 5);
        Checks.tell(x, "write 2 0 2;write 1 6 6");
        whole(x, 0, 1, 1, 1, 0, 161, 0, 0, 0, 128, 160, 0, LateChecks.NONE);
        whole(x, 1, 1, 1, 2, 0, 0, 192, 0, 0, 0, 0, 5, LateChecks.NONE);
        whole(x, 2, 1, 1, 3, 0, 192, 1, 0, 0, 128, 128, 1, LateChecks.NONE);
        x.abort(0);
        x.retry(0);
        x.read(0, 6);
        x.abort(2);
        x.send(0);
        whole(x, 0, 3, 3, 1, 1, 64, 0, 0, 0, 0, 0, 0, 1);
        whole(x, 1, 1, 1, 2, 0, 0, 192, 0, 0, 0, 0, 0, LateChecks.NONE);
        whole(x, 2, 0, 0, 3, 0, 0, 0, 1, 0, 0, 0, 0, LateChecks.NONE);
        x.limit(1);
        x.retry(2);
        x.abort(2);
        whole(x, 2, 0, 0, 3, 1, 0, 0, 1, 1, 0, 0, 0, LateChecks.NONE);
        LateChecks y = Checks.told("begin 0;begin 1;begin 2;read 1 0;write 1 1 1;read 2 1;write 0 0 5");
        y.commit(0, 2);
        whole(y, 1, 2, 0, 2, 0, 1, 2, 0, 0, 1, 1, 4, LateChecks.NONE);
        LateChecks z = Checks.told("begin 0;read 0 0;read 0 1;read 0 6;read 0 7;write 0 2 2;item 0 0;item 6 0;item 7 0;item 2 2");
        whole(z, 0, 1, 0, 1, 0, 195, 4, 0, 0, 193, 193, 0, LateChecks.NONE);
        for (int n : new int[] {Integer.MIN_VALUE, -1, 12, Integer.MAX_VALUE}) {
            CHECKS.due("20: deal(0, " + n + ")", y.deal(0, n), LateChecks.OUTSIDE);
            CHECKS.due("20: deal(6, " + n + ")", y.deal(6, n), LateChecks.UNKNOWN);
            CHECKS.due("20: deal(-1, " + n + ")", y.deal(-1, n), LateChecks.UNKNOWN);
        }
    }

    private static void promise21Noted() {
        LateChecks x = Checks.told("item 3 30;item 3 31;begin 5;read 5 3;write 5 4 40;read 5 0");
        CHECKS.due("21: noted(5, 3, 0)", x.noted(5, 3, 0), 31);
        CHECKS.due("21: noted(5, 3, 1)", x.noted(5, 3, 1), 2);
        CHECKS.due("21: noted(5, 3, 2)", x.noted(5, 3, 2), LateChecks.NONE);
        CHECKS.due("21: noted(5, 4, 0)", x.noted(5, 4, 0), LateChecks.NONE);
        CHECKS.due("21: noted(5, 4, 1)", x.noted(5, 4, 1), LateChecks.NONE);
        CHECKS.due("21: noted(5, 4, 2)", x.noted(5, 4, 2), 40);
        CHECKS.due("21: noted(5, 0, 0)", x.noted(5, 0, 0), 0);
        CHECKS.due("21: noted(5, 0, 1)", x.noted(5, 0, 1), 0);
        CHECKS.due("21: of a free deal", x.noted(1, 0, 0), LateChecks.NONE);
        x.send(5);
        CHECKS.due("21: of a sent deal", x.noted(5, 3, 0), 31);
        for (int n : new int[] {Integer.MIN_VALUE, -1, 3, Integer.MAX_VALUE}) {
            CHECKS.due("21: noted(5, 3, " + n + ")", x.noted(5, 3, n), LateChecks.OUTSIDE);
            CHECKS.due("21: noted(6, 3, " + n + ")", x.noted(6, 3, n), LateChecks.UNKNOWN);
            CHECKS.due("21: noted(5, 8, " + n + ")", x.noted(5, 8, n), LateChecks.UNKNOWN);
            CHECKS.due("21: noted(5, -1, " + n + ")", x.noted(5, -1, n), LateChecks.UNKNOWN);
        }
    }

    private static void promise22Sent() {
        LateChecks x = Checks.told("begin 0;begin 1;begin 2;begin 3;begin 4;begin 5");
        CHECKS.due("22: sent(0) of none", x.sent(0), LateChecks.UNKNOWN);
        int[] order = {3, 5, 0, 4, 1, 2};
        for (int d : order) {
            x.send(d);
        }
        for (int k = 0; k < order.length; k++) {
            CHECKS.due("22: sent(" + k + ")", x.sent(k), order[k]);
        }
        for (int k : new int[] {Integer.MIN_VALUE, -1, 6, Integer.MAX_VALUE}) {
            CHECKS.due("22: sent(" + k + ")", x.sent(k), LateChecks.UNKNOWN);
        }
        x.vote(0);
        x.vote(1);
        x.settle();
        CHECKS.due("22: sent(0) behind settle()", x.sent(0), 5);
        CHECKS.due("22: sent(5) behind settle()", x.sent(5), LateChecks.UNKNOWN);
        x.begin(3);
        x.send(3);
        CHECKS.due("22: sent(5), sent again", x.sent(5), 3);
    }

    private static void promise23Ballot() {
        LateChecks x = Checks.told("begin 0;begin 1;read 0 4;item 4 1;send 0");
        CHECKS.due("23: ballot(0, 0)", x.ballot(0, 0), LateChecks.NONE);
        CHECKS.due("23: ballot(0, 1)", x.ballot(0, 1), LateChecks.NOT);
        CHECKS.due("23: ballot(0, 2)", x.ballot(0, 2), LateChecks.NOT);
        x.vote(0);
        CHECKS.due("23: ballot(0, 0) behind a vote", x.ballot(0, 0), 1);
        CHECKS.due("23: ballot(1, 0) not yet", x.ballot(1, 0), LateChecks.NONE);
        x.vote(1);
        CHECKS.due("23: ballot(1, 0)", x.ballot(1, 0), 0);
        for (int n : new int[] {Integer.MIN_VALUE, -1, 2, Integer.MAX_VALUE}) {
            CHECKS.due("23: ballot(" + n + ", 0)", x.ballot(n, 0), LateChecks.UNKNOWN);
            CHECKS.due("23: ballot(" + n + ", 1)", x.ballot(n, 1), LateChecks.UNKNOWN);
        }
        CHECKS.due("23: ballot(0, 6)", x.ballot(0, 6), LateChecks.UNKNOWN);
        CHECKS.due("23: ballot(1, -1)", x.ballot(1, -1), LateChecks.UNKNOWN);
        x.settle();
        CHECKS.due("23: ballot(0, 0) behind settle()", x.ballot(0, 0), LateChecks.NOT);
    }

    /** Commits 1 put, 2 and 3 by way 0, 4 by way 1, 5 by way 2 behind a try, 6 settled. */
    private static LateChecks manyWays() {
        LateChecks x = Checks.told("item 1 10;begin 0;begin 1;begin 2;begin 3;begin 4");
        Checks.tell(x, "read 0 1;write 0 1 11;read 1 5;read 1 7;write 2 5 50;write 2 1 12");
        x.commit(0, 0);
        x.commit(1, 0);
        x.commit(2, 1);
        x.abort(3);
        x.retry(3);
        Checks.tell(x, "read 3 1;read 3 5;write 3 7 70");
        x.commit(3, 2);
        Checks.tell(x, "read 4 7;read 4 5;write 4 5 51;write 4 6 60;send 4");
        x.vote(0);
        x.vote(1);
        x.settle();
        return x;
    }

    private static void promise24Log() {
        LateChecks x = manyWays();
        int[][] due = {
            {LateChecks.NONE, 0, 0, 0, 2, 4}, {0, 1, 0, 2, 2, 0}, {1, 2, 0, 160, 0, 0},
            {2, 3, 0, 0, 34, 1}, {3, 4, 1, 34, 128, 2}, {4, 5, 0, 160, 96, 3},
        };
        CHECKS.due("24: commits", x.count(0), due.length);
        for (int c = 1; c <= due.length; c++) {
            for (int what = 0; what < due[c - 1].length; what++) {
                CHECKS.due("24: log(" + c + ", " + what + ")", x.log(c, what), due[c - 1][what]);
            }
        }
        for (int n : new int[] {Integer.MIN_VALUE, -1, 6, Integer.MAX_VALUE}) {
            CHECKS.due("24: log(1, " + n + ")", x.log(1, n), LateChecks.OUTSIDE);
        }
        for (int n : new int[] {Integer.MIN_VALUE, -1, 0, 7, 512, 513, 514, Integer.MAX_VALUE}) {
            CHECKS.due("24: log(" + n + ", 0)", x.log(n, 0), LateChecks.UNKNOWN);
            CHECKS.due("24: log(" + n + ", 6)", x.log(n, 6), LateChecks.UNKNOWN);
        }
    }

    private static void promise25Logged() {
        LateChecks x = manyWays();
        int[][] due = { // commit, item, stamp noted, value written
            {1, 1, -1, 10}, {1, 0, -1, -1}, {2, 1, 1, 11}, {3, 5, 0, -1}, {3, 7, 0, -1}, {3, 1, -1, -1}, {4, 5, -1, 50},
            {4, 1, -1, 12}, {5, 1, 4, -1}, {5, 5, 4, -1}, {5, 7, -1, 70}, {6, 7, 5, -1}, {6, 5, 4, 51}, {6, 6, -1, 60},
        };
        for (int[] d : due) {
            CHECKS.due("25: logged(" + d[0] + ", " + d[1] + ", 0)", x.logged(d[0], d[1], 0), d[2]);
            CHECKS.due("25: logged(" + d[0] + ", " + d[1] + ", 1)", x.logged(d[0], d[1], 1), d[3]);
        }
        for (int n : new int[] {Integer.MIN_VALUE, -1, 2, Integer.MAX_VALUE}) {
            CHECKS.due("25: logged(1, 1, " + n + ")", x.logged(1, 1, n), LateChecks.OUTSIDE);
        }
        for (int n : new int[] {Integer.MIN_VALUE, -1, 8, Integer.MAX_VALUE}) {
            CHECKS.due("25: logged(1, " + n + ", 2)", x.logged(1, n, 2), LateChecks.UNKNOWN);
            CHECKS.due("25: logged(" + n + ", 1, 2)", x.logged(n, 1, 2), LateChecks.UNKNOWN);
        }
        LateChecks y = Checks.told("item 0 1;item 7 2;begin 0;read 0 0;read 0 7;write 0 0 10;write 0 7 17");
        y.commit(0, 1);
        CHECKS.due("25: logged(3, 0, 0)", y.logged(3, 0, 0), 1);
        CHECKS.due("25: logged(3, 0, 1)", y.logged(3, 0, 1), 10);
        CHECKS.due("25: logged(3, 7, 0)", y.logged(3, 7, 0), 2);
        CHECKS.due("25: logged(3, 7, 1)", y.logged(3, 7, 1), 17);
        CHECKS.due("25: logged(0, 1, 0)", x.logged(0, 1, 0), LateChecks.UNKNOWN);
        CHECKS.due("25: logged(7, 1, 0)", x.logged(7, 1, 0), LateChecks.UNKNOWN);
    }

    private static void promise26Behind() {
        LateChecks x = manyWays();
        int[][] due = {{3}, {0, 0}, {2, 6, 4}, {0, 0, 4, 1}, {0, 0, 4, 3, 5}};
        for (int c = 2; c <= 6; c++) {
            for (int e = 1; e < c; e++) {
                CHECKS.due("26: behind(" + c + ", " + e + ")", x.behind(c, e), due[c - 2][e - 1]);
                CHECKS.due("26: behind(" + e + ", " + c + ")", x.behind(e, c), LateChecks.UNKNOWN);
            }
            CHECKS.due("26: behind(" + c + ", " + c + ")", x.behind(c, c), LateChecks.UNKNOWN);
        }
        for (int n : new int[] {Integer.MIN_VALUE, -1, 0, 7, Integer.MAX_VALUE}) {
            CHECKS.due("26: behind(6, " + n + ")", x.behind(6, n), LateChecks.UNKNOWN);
            CHECKS.due("26: behind(" + n + ", 1)", x.behind(n, 1), LateChecks.UNKNOWN);
        }
    }

    /** That it read an item which the other wrote is not enough: it must have read what that one wrote. */
    private static void promise26BehindByStamps() {
        LateChecks x = Checks.told("item 0 1;item 0 2;item 7 3;begin 0;begin 1;read 0 0;read 1 7;read 1 3");
        x.commit(0, 1);
        x.commit(1, 1);
        CHECKS.due("26: it read what came later", x.behind(4, 1), 0);
        CHECKS.due("26: item 0", x.behind(4, 2), 1);
        CHECKS.due("26: item 7", x.behind(5, 3), 1);
        CHECKS.due("26: both read alone", x.behind(5, 4), 0);
        x.put(3, 3);
        CHECKS.due("26: no deal wrote what was read", x.behind(6, 5), 4);
    }

    private static void promise27Count() {
        LateChecks x = Checks.told("limit 7;item 0 9999;item 7 9999;begin 0;begin 1;begin 2;begin 3;begin 4;read 1 0");
        Checks.tell(x, "write 0 0 1;read 0 1;read 2 1;write 2 1 5;item 2 2;read 3 2");
        x.peek(2, 2);
        x.commit(2, 2);
        x.commit(3, 0);
        x.commit(0, 2);
        x.abort(1);
        x.begin(0);
        Checks.tell(x, "begin 1;read 1 3;write 0 3 33;begin 2");
        x.abort(4);
        x.begin(4);
        x.send(2);
        Checks.write(x, "all");
        int[] due = {4, 3, 1, 0, 4, 1, 1, 9, 7, 3, 10002};
        for (int what = 0; what < due.length; what++) {
            CHECKS.due("27: count(" + what + ")", x.count(what), due[what]);
        }
        x.vote(0);
        x.vote(1);
        x.settle();
        x.abort(1);
        x.begin(1);
        x.read(1, 3);
        x.commit(0, 2);
        CHECKS.due("27: count(1) with a doomed one", x.count(1), 1);
        CHECKS.due("27: count(3)", x.count(3), 1);
        for (int n : new int[] {Integer.MIN_VALUE, -1, 11, Integer.MAX_VALUE}) {
            CHECKS.due("27: count(" + n + ")", x.count(n), LateChecks.OUTSIDE);
        }
    }

    /** As many commits as 512 calls can make all stand in the log; what comes then is free, but must not throw. */
    private static void longRun() {
        LateChecks x = new LateChecks();
        for (int n = 1; n <= 512; n++) {
            CHECKS.due("7: put() number " + n, x.put(n % 8, n), n);
        }
        CHECKS.due("24: log(512, 4)", x.log(512, 4), 1);
        CHECKS.due("25: logged(511, 7, 1)", x.logged(511, 7, 1), 511);
        for (int n = 0; n < 100; n++) {
            x.put(0, n);
            x.begin(0);
            x.read(0, 0);
            x.peek(0, 1);
            x.commit(0, 0);
            x.begin(1);
            x.send(1);
            x.vote(0);
            x.vote(1);
            x.settle();
            x.log(x.count(0), 0);
            x.behind(x.count(0), x.count(0) - 1);
            Checks.tell(x, "item 0 1;begin 2;send 2");
        }
    }
}
