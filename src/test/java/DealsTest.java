/** Promises 9 to 19: deals, their checks, and the votes on them. */
public final class DealsTest {
    private static final Checks CHECKS = new Checks();
    private static final int[] NO_DEALS = {Integer.MIN_VALUE, -1, 6, Integer.MAX_VALUE};
    private static final int[] NO_ITEMS = {Integer.MIN_VALUE, -1, 8, Integer.MAX_VALUE};

    public static void main(String[] args) {
        promise9Begin();
        promise10Retry();
        promise11Read();
        promise12Lay();
        promise13CommitBackward();
        promise13CommitByStamps();
        promise13CommitForward();
        promise13CommitForwardByAgeAndStubbornness();
        promise13CommitWritesAndFrees();
        promise13CommitRefused();
        promise14Peek();
        promise15Abort();
        promise16Sweep();
        promise17Send();
        promise18Vote();
        promise18VoteByWhatWasLetPass();
        promise19Settle();
        promise19SettleInVain();
        wrongDeals();
        CHECKS.end("DealsTest");
    }

    private static void promise9Begin() {
        LateChecks x = Checks.told("item 0 1;item 1 2");
        CHECKS.due("9: begin(5)", x.begin(5), 1);
        CHECKS.due("9: begin(0)", x.begin(0), 2);
        CHECKS.due("9: it is open", x.deal(5, 0), 1);
        CHECKS.due("9: its start", x.deal(5, 1), 2);
        CHECKS.due("9: begin(5) again", x.begin(5), LateChecks.NOT);
        CHECKS.due("9: a refused one does not count", x.count(7), 2);
        x.read(0, 0);
        x.lay(0, 1, 7);
        x.abort(0);
        x.retry(0);
        x.abort(0);
        x.put(2, 3);
        CHECKS.due("9: a lost deal begins anew", x.begin(0), 3);
        int[] then = {1, 3, 3, 0, 0, 0, 0, 0, 0, 0, 0, LateChecks.NONE};
        for (int what = 0; what < then.length; what++) {
            CHECKS.due("9: deal(0, " + what + ")", x.deal(0, what), then[what]);
        }
        CHECKS.due("9: not lost any more", x.retry(0), LateChecks.NOT);
        x.send(5);
        CHECKS.due("9: begin() of a sent deal", x.begin(5), LateChecks.NOT);
        CHECKS.due("9: begin(1) while a deal is sent", x.begin(1), 4);
    }

    private static void promise10Retry() {
        LateChecks x = Checks.told("begin 0;begin 1;read 1 0;write 1 1 5");
        CHECKS.due("10: retry() of an open deal", x.retry(1), LateChecks.NOT);
        CHECKS.due("10: retry() of a free one", x.retry(2), LateChecks.NOT);
        x.abort(1);
        x.put(0, 3);
        x.limit(1);
        CHECKS.due("10: while lost its age stays", x.deal(1, 2), 2);
        CHECKS.due("10: while lost its start is 0", x.deal(1, 1), 0);
        CHECKS.due("10: retry(1)", x.retry(1), 1);
        int[] then = {1, 1, 2, 1, 0, 0, 0, 1, 0, 0, 0, LateChecks.NONE};
        for (int what = 0; what < then.length; what++) {
            CHECKS.due("10: deal(1, " + what + ")", x.deal(1, what), then[what]);
        }
        CHECKS.due("10: the noted value is gone", x.noted(1, 0, 0), LateChecks.NONE);
        CHECKS.due("10: the laid value is gone", x.noted(1, 1, 2), LateChecks.NONE);
        CHECKS.due("10: it reads anew", x.read(1, 0), 3);
        x.abort(1);
        CHECKS.due("10: retry(1) again", x.retry(1), 2);
        CHECKS.due("10: retry() is no begin()", x.count(7), 2);
        CHECKS.due("10: it commits", x.commit(1, 0), 2);
        CHECKS.due("10: retry() behind a commit", x.retry(1), LateChecks.NOT);
        CHECKS.due("10: its age is gone", x.deal(1, 2), 0);
        CHECKS.due("10: its tries are gone", x.deal(1, 3), 0);
    }

    private static void promise11Read() {
        LateChecks x = Checks.told("item 0 5;begin 0;begin 1");
        CHECKS.due("11: read(0, 0)", x.read(0, 0), 5);
        CHECKS.due("11: its value is noted", x.noted(0, 0, 0), 5);
        CHECKS.due("11: its stamp is noted", x.noted(0, 0, 1), 1);
        x.put(0, 6);
        CHECKS.due("11: the noted value", x.read(0, 0), 5);
        CHECKS.due("11: the stamp stays noted", x.noted(0, 0, 1), 1);
        CHECKS.due("11: another deal", x.read(1, 0), 6);
        x.lay(0, 0, 9);
        CHECKS.due("11: its own write goes first", x.read(0, 0), 9);
        CHECKS.due("11: what was noted stays", x.noted(0, 0, 0), 5);
        x.lay(0, 7, 70);
        CHECKS.due("11: its own write", x.read(0, 7), 70);
        CHECKS.due("11: what it wrote first it does not read", x.deal(0, 4), 1);
        CHECKS.due("11: another deal does not see it", x.read(1, 7), 0);
        CHECKS.due("11: read() of a free deal", x.read(2, 0), LateChecks.NOT);
        for (int n : NO_ITEMS) {
            CHECKS.due("11: read(0, " + n + ")", x.read(0, n), LateChecks.UNKNOWN);
            CHECKS.due("11: read(2, " + n + ")", x.read(2, n), LateChecks.UNKNOWN);
        }
        x.send(0);
        CHECKS.due("11: read() of a sent deal", x.read(0, 0), LateChecks.NOT);
    }

    private static void promise12Lay() {
        LateChecks x = Checks.told("begin 0");
        CHECKS.due("12: lay(0, 0, 9999)", x.lay(0, 0, 9999), 1);
        CHECKS.due("12: lay(0, 7, 0)", x.lay(0, 7, 0), 2);
        CHECKS.due("12: lay() again", x.lay(0, 0, 3), 2);
        CHECKS.due("12: its value", x.noted(0, 0, 2), 3);
        CHECKS.due("12: the item's value is as it was", x.item(0, 0), 0);
        CHECKS.due("12: its bits", x.deal(0, 5), 129);
        CHECKS.due("12: lay() reads nothing", x.deal(0, 4), 0);
        for (int i = 1; i < 7; i++) {
            CHECKS.due("12: lay(0, " + i + ", 1)", x.lay(0, i, 1), i + 2);
        }
        CHECKS.due("12: lay(0, 0, 10000)", x.lay(0, 0, 10000), LateChecks.OUTSIDE);
        CHECKS.due("12: lay(0, 0, -1)", x.lay(0, 0, -1), LateChecks.OUTSIDE);
        CHECKS.due("12: lay(1, 0, -1)", x.lay(1, 0, -1), LateChecks.OUTSIDE);
        CHECKS.due("12: lay(1, 0, 0)", x.lay(1, 0, 0), LateChecks.NOT);
        for (int n : NO_ITEMS) {
            CHECKS.due("12: lay(1, " + n + ", -1)", x.lay(1, n, -1), LateChecks.UNKNOWN);
        }
        x.send(0);
        CHECKS.due("12: lay() of a sent deal", x.lay(0, 0, 1), LateChecks.NOT);
    }

    private static void promise13CommitBackward() {
        LateChecks x = Checks.told("begin 0;begin 1;begin 2;read 0 3;item 3 7;read 1 3;item 4 8;read 2 5");
        CHECKS.due("13: crossed and stale", x.commit(0, 0), LateChecks.STALE);
        CHECKS.due("13: crossed, not stale", x.commit(1, 0), LateChecks.VAIN);
        CHECKS.due("13: neither", x.commit(2, 0), 3);
        CHECKS.due("13: both failed", x.count(4), 2);
        CHECKS.due("13: one in vain", x.count(5), 1);
        CHECKS.due("13: none yielded", x.count(6), 0);
        CHECKS.due("13: it is lost", x.deal(1, 6), 1);
        CHECKS.due("13: the start is its own", x.retry(1), 1);
        x.read(1, 3);
        CHECKS.due("13: what was written ahead of it", x.commit(1, 0), 4);
        Checks.tell(x, "begin 0;read 0 1;item 1 1;read 0 2;item 2 2");
        CHECKS.due("13: of two one is stale", x.commit(0, 0), LateChecks.STALE);
        Checks.tell(x, "begin 0;write 0 1 1;item 1 1");
        CHECKS.due("13: what it wrote alone does not count", x.commit(0, 0), 8);
    }

    private static void promise13CommitByStamps() {
        LateChecks x = Checks.told("begin 0;begin 1;read 0 3;item 3 7;read 1 3");
        CHECKS.due("13: stale", x.commit(0, 1), LateChecks.STALE);
        CHECKS.due("13: crossed alone", x.commit(1, 1), 2);
        Checks.tell(x, "begin 0;read 0 3;item 3 7");
        CHECKS.due("13: the same value of another stamp", x.commit(0, 1), LateChecks.STALE);
        Checks.tell(x, "begin 0;begin 1;read 1 0;write 0 0 1");
        CHECKS.due("13: rivals do not count", x.commit(0, 1), 4);
        CHECKS.due("13: and are not doomed", x.deal(1, 0), 1);
    }

    private static void promise13CommitForward() {
        LateChecks x = Checks.told("begin 0;begin 1;begin 2;begin 3;begin 4");
        Checks.tell(x, "read 1 3;read 2 3;read 2 4;read 3 5;write 0 3 1;write 0 4 1;read 0 0");
        x.put(1, 1);
        CHECKS.due("13: its rivals", x.deal(0, 10), 6);
        CHECKS.due("13: the oldest wins", x.commit(0, 2), 2);
        int[] states = {0, 2, 2, 1, 1, 0};
        for (int d = 0; d < states.length; d++) {
            CHECKS.due("13: state of " + d, x.deal(d, 0), states[d]);
        }
        CHECKS.due("13: doomed ones did not fail yet", x.count(4), 0);
        CHECKS.due("13: doomed ones keep what they read", x.deal(2, 4), 24);
        CHECKS.due("13: a doomed one is not committed", x.commit(1, 1), LateChecks.NOT);
        Checks.tell(x, "write 4 4 9");
        CHECKS.due("13: a doomed one is no rival", x.deal(4, 10), 0);
        CHECKS.due("13: so it does not yield to it", x.commit(4, 2), 3);
        Checks.tell(x, "item 5 5;write 3 5 2");
        CHECKS.due("13: stale goes first", x.commit(3, 2), LateChecks.STALE);
        Checks.tell(x, "begin 0;read 0 0;write 0 0 1");
        CHECKS.due("13: it is not its own rival", x.commit(0, 2), 5);
        Checks.tell(x, "begin 0;item 6 6;read 0 6");
        CHECKS.due("13: crossed alone does not count", x.commit(0, 2), 7);
    }

    /** Deals 0 and 1 read and write item 0; each is tried as often as told. */
    private static LateChecks twoRivals(int limit, int triesOf0, int triesOf1) {
        LateChecks x = Checks.told("begin 0;begin 1");
        x.limit(limit);
        for (int d = 0; d < 2; d++) {
            for (int t = 0; t < (d == 0 ? triesOf0 : triesOf1); t++) {
                x.abort(d);
                x.retry(d);
            }
            x.read(d, 0);
            x.lay(d, 0, 10 + d);
        }
        return x;
    }

    private static void promise13CommitForwardByAgeAndStubbornness() {
        int[][] cases = { // limit, tries of each, who goes first
            {2, 0, 0, 0}, {2, 1, 1, 0}, {2, 0, 1, 0}, {2, 1, 0, 0}, {2, 0, 2, 1}, {2, 1, 2, 1}, {2, 2, 2, 0},
            {2, 2, 5, 0}, {2, 2, 0, 0}, {1, 0, 1, 1}, {9, 0, 8, 0}, {9, 0, 9, 1}, {3, 2, 3, 1}, {3, 3, 4, 0},
        };
        for (int[] c : cases) {
            String told = "13: limit " + c[0] + ", tries " + c[1] + " and " + c[2] + ": ";
            int winner = c[3];
            LateChecks x = twoRivals(c[0], c[1], c[2]);
            CHECKS.due(told + "peek of the loser", x.peek(1 - winner, 2), LateChecks.YIELDS);
            CHECKS.due(told + "the winner", x.commit(winner, 2), 1);
            CHECKS.due(told + "the loser is doomed", x.deal(1 - winner, 0), 2);
            LateChecks y = twoRivals(c[0], c[1], c[2]);
            CHECKS.due(told + "the loser", y.commit(1 - winner, 2), LateChecks.YIELDS);
            CHECKS.due(told + "the loser is lost", y.deal(1 - winner, 6), 1);
            CHECKS.due(told + "it is counted", y.count(6), 1);
            CHECKS.due(told + "it is not in vain", y.count(5), 0);
            CHECKS.due(told + "the winner stays open", y.deal(winner, 0), 1);
        }
        LateChecks x = Checks.told("begin 0;begin 1;begin 2;read 0 1;read 2 1;write 1 1 1");
        CHECKS.due("13: one older among rivals is enough", x.commit(1, 2), LateChecks.YIELDS);
        CHECKS.due("13: then no rival is doomed", x.count(3), 0);
    }

    private static void promise13CommitWritesAndFrees() {
        LateChecks x = Checks.told("item 0 1;begin 3;read 3 0;write 3 6 60;write 3 0 10");
        CHECKS.due("13: commit(3, 1)", x.commit(3, 1), 2);
        CHECKS.due("13: value 0", x.item(0, 0), 10);
        CHECKS.due("13: stamp 0", x.item(0, 1), 2);
        CHECKS.due("13: value 6", x.item(6, 0), 60);
        CHECKS.due("13: stamp 6", x.item(6, 1), 2);
        CHECKS.due("13: stamp 1", x.item(1, 1), 0);
        for (int what = 0; what <= 10; what++) {
            CHECKS.due("13: deal(3, " + what + ") then", x.deal(3, what), 0);
        }
        CHECKS.due("13: noted(3, 0, 0) then", x.noted(3, 0, 0), LateChecks.NONE);
        CHECKS.due("13: noted(3, 0, 2) then", x.noted(3, 0, 2), LateChecks.NONE);
        CHECKS.due("13: nothing failed", x.count(4), 0);
        x.begin(3);
        CHECKS.due("13: one that did nothing commits too", x.commit(3, 0), 3);
    }

    private static void promise13CommitRefused() {
        LateChecks x = Checks.told("begin 0;begin 1");
        for (int way : new int[] {Integer.MIN_VALUE, -1, 3, 4, Integer.MAX_VALUE}) {
            CHECKS.due("13: commit(0, " + way + ")", x.commit(0, way), LateChecks.OUTSIDE);
            CHECKS.due("13: commit(2, " + way + ")", x.commit(2, way), LateChecks.OUTSIDE);
            CHECKS.due("13: commit(6, " + way + ")", x.commit(6, way), LateChecks.UNKNOWN);
            CHECKS.due("14: peek(0, " + way + ")", x.peek(0, way), LateChecks.OUTSIDE);
            CHECKS.due("14: peek(6, " + way + ")", x.peek(6, way), LateChecks.UNKNOWN);
        }
        for (int way = 0; way <= 2; way++) {
            CHECKS.due("13: commit(2, " + way + ") of a free deal", x.commit(2, way), LateChecks.NOT);
        }
        x.send(1);
        for (int way = 0; way <= 2; way++) {
            CHECKS.due("13: commit(0, " + way + ") while one is sent", x.commit(0, way), LateChecks.NOT);
            CHECKS.due("13: commit(1, " + way + ") of the sent one", x.commit(1, way), LateChecks.NOT);
            CHECKS.due("14: peek(0, " + way + ") while one is sent", x.peek(0, way), LateChecks.NOT);
        }
        CHECKS.due("13: nothing was committed", x.count(0), 0);
        CHECKS.due("13: nothing failed", x.count(4), 0);
    }

    private static LateChecks fourToPeekAt() {
        LateChecks x = Checks.told("item 0 1;begin 0;begin 1;begin 2;begin 3;read 0 0;read 1 1;item 1 1;read 2 1");
        Checks.tell(x, "write 3 0 5;write 0 2 2");
        return x;
    }

    private static void promise14Peek() {
        LateChecks x = fourToPeekAt();
        int[][] due = {
            {3, 3, 3}, {LateChecks.STALE, LateChecks.STALE, LateChecks.STALE}, {LateChecks.VAIN, 3, 3},
            {3, 3, LateChecks.YIELDS}, {LateChecks.NOT, LateChecks.NOT, LateChecks.NOT},
        };
        for (int d = 0; d < due.length; d++) {
            for (int way = 0; way <= 2; way++) {
                CHECKS.due("14: peek(" + d + ", " + way + ")", x.peek(d, way), due[d][way]);
            }
        }
        CHECKS.due("14: nothing changes", Run.seen(x).equals(Run.seen(fourToPeekAt())) ? 1 : 0, 1);
    }

    private static void promise15Abort() {
        LateChecks x = Checks.told("begin 0;begin 1;begin 2;begin 3;read 1 1;write 1 2 2;read 2 0;write 0 0 9");
        CHECKS.due("15: abort(1)", x.abort(1), 3);
        int[] then = {0, 0, 2, 0, 0, 0, 1, 0, 0, 0, 0, LateChecks.NONE};
        for (int what = 0; what < then.length; what++) {
            CHECKS.due("15: deal(1, " + what + ")", x.deal(1, what), then[what]);
        }
        CHECKS.due("15: abort(1) again", x.abort(1), LateChecks.NOT);
        CHECKS.due("15: abort(4)", x.abort(4), LateChecks.NOT);
        x.commit(0, 2);
        CHECKS.due("15: of a doomed deal", x.abort(2), 1);
        CHECKS.due("15: it is lost", x.deal(2, 6), 1);
        CHECKS.due("15: both failed", x.count(4), 2);
        CHECKS.due("15: none in vain", x.count(5), 0);
        CHECKS.due("15: none yielded", x.count(6), 0);
        x.send(3);
        CHECKS.due("15: of a sent deal", x.abort(3), LateChecks.NOT);
        x.begin(0);
        CHECKS.due("15: the sent one is not open", x.abort(0), 0);
    }

    private static void promise16Sweep() {
        LateChecks x = Checks.told("begin 0;begin 1;begin 2;begin 3;begin 4;read 0 1;read 1 1;read 2 2;read 4 1");
        CHECKS.due("16: none is stale", x.sweep(), 0);
        x.lay(3, 1, 5);
        x.read(0, 2);
        x.put(1, 9);
        x.send(4);
        CHECKS.due("16: sweep()", x.sweep(), 2);
        int[] states = {0, 0, 1, 1, 3, 0};
        for (int d = 0; d < states.length; d++) {
            CHECKS.due("16: state of " + d, x.deal(d, 0), states[d]);
        }
        CHECKS.due("16: it is lost", x.deal(0, 6), 1);
        CHECKS.due("16: its age stays", x.deal(1, 2), 2);
        CHECKS.due("16: both failed", x.count(4), 2);
        CHECKS.due("16: none in vain", x.count(5), 0);
        CHECKS.due("16: again", x.sweep(), 0);
        LateChecks y = Checks.told("begin 0;begin 1;read 1 0;write 0 0 1");
        y.commit(0, 2);
        CHECKS.due("16: doomed ones stay", y.sweep(), 0);
        CHECKS.due("16: a doomed one is stale", y.deal(1, 8), 1);
        Checks.tell(y, "begin 0;item 3 3;read 0 3");
        CHECKS.due("16: crossed ones stay", y.sweep(), 0);
    }

    private static void promise17Send() {
        LateChecks x = Checks.told("begin 0;begin 1;begin 2;read 0 0;write 1 0 7");
        CHECKS.due("17: send(2)", x.send(2), 1);
        CHECKS.due("17: send(2) again", x.send(2), LateChecks.NOT);
        CHECKS.due("17: send(3)", x.send(3), LateChecks.NOT);
        CHECKS.due("17: send(0)", x.send(0), 2);
        CHECKS.due("17: it is sent", x.deal(0, 0), 3);
        CHECKS.due("17: it keeps what it read", x.deal(0, 4), 1);
        CHECKS.due("17: it keeps its age", x.deal(0, 2), 1);
        CHECKS.due("17: a sent one is no rival", x.deal(1, 10), 0);
        CHECKS.due("17: nobody voted", x.ballot(0, 0), LateChecks.NONE);
        x.vote(0);
        x.vote(1);
        x.settle();
        x.begin(2);
        CHECKS.due("17: tickets go on", x.send(2), 3);
        CHECKS.due("17: its votes are new", x.ballot(0, 2), LateChecks.NONE);
        LateChecks y = Checks.told("begin 0;begin 1;read 1 0;write 0 0 1");
        y.commit(0, 2);
        CHECKS.due("17: send() of a doomed deal", y.send(1), LateChecks.NOT);
    }

    private static void promise18Vote() {
        LateChecks x = Checks.told("begin 0;begin 1;begin 2;read 0 3;read 0 4;read 1 4;read 2 3;item 4 1");
        CHECKS.due("18: none is sent", x.vote(0), LateChecks.NOT);
        for (int n : new int[] {Integer.MIN_VALUE, -1, 2, Integer.MAX_VALUE}) {
            CHECKS.due("18: vote(" + n + ")", x.vote(n), LateChecks.UNKNOWN);
        }
        x.send(2);
        x.send(0);
        CHECKS.due("18: 0 on 2", x.vote(0), 1);
        CHECKS.due("18: only on the first", x.ballot(0, 0), LateChecks.NONE);
        CHECKS.due("18: only its own", x.ballot(1, 2), LateChecks.NONE);
        CHECKS.due("18: 0 on 0, stale in the other half", x.vote(0), 1);
        CHECKS.due("18: once on each", x.vote(0), LateChecks.NOT);
        CHECKS.due("18: 1 on 2", x.vote(1), 1);
        CHECKS.due("18: 1 on 0, stale", x.vote(1), 0);
        CHECKS.due("18: it is kept", x.ballot(1, 0), 0);
        x.send(1);
        CHECKS.due("18: 1 on 1, stale", x.vote(1), 0);
        CHECKS.due("18: 0 on 1", x.vote(0), 1);
        LateChecks y = Checks.told("begin 0;begin 1;read 0 3;read 1 4;item 3 3;send 0;send 1");
        CHECKS.due("18: item 3 is of validator 0", y.vote(0), 0);
        CHECKS.due("18: and not of 1", y.vote(1), 1);
    }

    private static void promise18VoteByWhatWasLetPass() {
        LateChecks x = Checks.told("begin 0;begin 1;begin 2;write 0 0 1;write 0 7 1;read 1 0;write 1 1 1;read 2 1");
        Checks.tell(x, "send 0;send 1;send 2");
        CHECKS.due("18: 0 on 0", x.vote(0), 1);
        CHECKS.due("18: 0 on 1, which reads what 0 writes", x.vote(0), 0);
        CHECKS.due("18: 0 on 2, which reads what 1 writes", x.vote(0), 1);
        CHECKS.due("18: 1 on 0", x.vote(1), 1);
        CHECKS.due("18: 1 on 1", x.vote(1), 1);
        CHECKS.due("18: 1 on 2, its items are not read", x.vote(1), 1);
        LateChecks y = Checks.told("begin 0;begin 1;begin 2;begin 3;read 1 0;write 0 0 1;read 2 6;write 3 6 6");
        Checks.tell(y, "read 3 7;send 1;send 0;send 2;send 3");
        CHECKS.due("18: of a greater ticket", y.vote(0), 1);
        y.vote(1);
        y.vote(1);
        CHECKS.due("18: 2 reads what 3 writes, but goes ahead of it", y.vote(1), 1);
        CHECKS.due("18: 3 writes what 2 reads", y.vote(1), 1);
        LateChecks w = Checks.told("begin 0;begin 1;begin 2;write 0 0 1;write 1 1 1;read 2 0;send 0;send 1;send 2");
        w.vote(0);
        w.vote(0);
        CHECKS.due("18: what any of those ahead writes counts", w.vote(0), 0);
        LateChecks v = Checks.told("begin 0;begin 1;write 0 3 3;write 0 4 4;read 1 4;send 0;send 1");
        v.vote(1);
        v.vote(0);
        CHECKS.due("18: item 4 is not of validator 0", v.vote(0), 1);
        CHECKS.due("18: item 4 is of validator 1", v.vote(1), 0);
        LateChecks z = Checks.told("begin 0;begin 1;begin 2;write 0 5 1;read 1 5;write 1 6 1;read 2 6;send 0");
        z.vote(0);
        z.vote(1);
        z.settle();
        CHECKS.due("18: the settled one is stale for others", Checks.tell(z, "send 1;send 2"), 2);
        CHECKS.due("18: 1 on 1, stale", z.vote(1), 0);
        CHECKS.due("18: 1 on 2, since it voted no on 1", z.vote(1), 1);
    }

    private static void promise19Settle() {
        LateChecks x = Checks.told("item 2 2;begin 4;begin 5;read 4 2;write 4 2 20;write 4 6 60;read 5 6;write 5 0 1");
        CHECKS.due("19: none is sent", x.settle(), LateChecks.NOT);
        Checks.tell(x, "send 5;send 4");
        CHECKS.due("19: nobody voted", x.settle(), LateChecks.NOT);
        x.vote(1);
        CHECKS.due("19: one did", x.settle(), LateChecks.NOT);
        x.vote(0);
        CHECKS.due("19: by tickets", x.settle(), 2);
        CHECKS.due("19: 5 is free", x.deal(5, 0), 0);
        CHECKS.due("19: 5 is not lost", x.deal(5, 6), 0);
        CHECKS.due("19: it wrote", x.item(0, 0), 1);
        CHECKS.due("19: its stamp", x.item(0, 1), 2);
        CHECKS.due("19: its ticket is gone", x.deal(5, 11), LateChecks.NONE);
        CHECKS.due("19: nobody voted on 4", x.settle(), LateChecks.NOT);
        x.vote(0);
        x.vote(1);
        CHECKS.due("19: 4", x.settle(), 3);
        int[] logged = {4, 1, 0, 4, 68, 3};
        for (int what = 0; what < logged.length; what++) {
            CHECKS.due("19: log(3, " + what + ")", x.log(3, what), logged[what]);
        }
        CHECKS.due("19: none is sent any more", x.settle(), LateChecks.NOT);
        Checks.tell(x, "begin 0;read 0 1;item 1 1;send 0");
        CHECKS.due("19: 0 votes no", x.vote(0), 0);
        CHECKS.due("19: one no is not enough", x.settle(), LateChecks.NOT);
        x.vote(1);
        CHECKS.due("19: stale", x.settle(), LateChecks.STALE);
        CHECKS.due("19: it is lost", x.deal(0, 6), 1);
        CHECKS.due("19: it failed", x.count(4), 1);
        CHECKS.due("19: not in vain", x.count(5), 0);
    }

    /** Deal 1 reads what deal 0 writes and is refused for it, but deal 0 fails then, for what it read elsewhere. */
    private static void promise19SettleInVain() {
        LateChecks x = Checks.told("begin 0;begin 1;read 0 7;write 0 0 5;read 1 0;item 7 7;send 0;send 1");
        CHECKS.due("19: 0 on 0", x.vote(0), 1);
        CHECKS.due("19: 0 on 1", x.vote(0), 0);
        CHECKS.due("19: 1 on 0", x.vote(1), 0);
        CHECKS.due("19: 1 on 1", x.vote(1), 1);
        CHECKS.due("19: 0 is stale", x.settle(), LateChecks.STALE);
        CHECKS.due("19: 1 fails in vain", x.settle(), LateChecks.VAIN);
        CHECKS.due("19: both failed", x.count(4), 2);
        CHECKS.due("19: one in vain", x.count(5), 1);
        CHECKS.due("19: nothing was written", x.item(0, 1), 0);
        CHECKS.due("19: retry(1)", x.retry(1), 1);
        CHECKS.due("19: its ticket is a new one", x.send(1), 3);
        CHECKS.due("19: its votes are new", x.ballot(0, 1), LateChecks.NONE);
    }

    private static void wrongDeals() {
        LateChecks x = new LateChecks();
        for (int n : NO_DEALS) {
            CHECKS.due("9: begin(" + n + ")", x.begin(n), LateChecks.UNKNOWN);
            CHECKS.due("10: retry(" + n + ")", x.retry(n), LateChecks.UNKNOWN);
            CHECKS.due("11: read(" + n + ", 0)", x.read(n, 0), LateChecks.UNKNOWN);
            CHECKS.due("12: lay(" + n + ", 0, -1)", x.lay(n, 0, -1), LateChecks.UNKNOWN);
            CHECKS.due("13: commit(" + n + ", 0)", x.commit(n, 0), LateChecks.UNKNOWN);
            CHECKS.due("14: peek(" + n + ", 0)", x.peek(n, 0), LateChecks.UNKNOWN);
            CHECKS.due("15: abort(" + n + ")", x.abort(n), LateChecks.UNKNOWN);
            CHECKS.due("17: send(" + n + ")", x.send(n), LateChecks.UNKNOWN);
        }
    }
}
