import java.util.ArrayList;
import java.util.List;
import java.util.Set;
import java.util.TreeSet;

/**
 * Every refusal of every call. Each call is made in scenes of all kinds, with numbers at its bounds and beyond them,
 * several of them wrong at once: the answer must be the refusal that the document names first, and the object must be
 * as one that was not asked. A call that only looks must leave it so as well when it is not refused.
 */
final class Refusals {
    private static final int UNKNOWN = LateChecks.UNKNOWN, OUTSIDE = LateChecks.OUTSIDE, NOT = LateChecks.NOT, FULL = LateChecks.FULL;
    private static final int FINE = 0;
    private static final Set<String> LOOKING =
            Set.of("fault", "item", "peek", "deal", "noted", "sent", "ballot", "log", "logged", "behind", "count");

    /** Beyond the bounds there are numbers that would be within them if they were cut, shifted, or taken without sign. */
    private static final int[] FAR = {Integer.MIN_VALUE, Integer.MIN_VALUE + 1, -32, 32, 256, 65536, Integer.MAX_VALUE};
    private static final int[] NOTHING = {0};
    private static final int[] DEALS = edges(-2, 7);
    private static final int[] ITEMS = edges(-2, 9);
    private static final int[] VALIDATORS = edges(-2, 3);
    private static final int[] PLACES = edges(-2, 7);
    private static final int[] COMMITS = edges(-2, 7);
    private static final int[] WAYS = edges(-2, 5);
    private static final int[] WHATS = edges(-2, 13);
    private static final int[] LIMITS = edges(-2, 11);
    private static final int[] VALUES = {Integer.MIN_VALUE, -1, 0, 1, 9998, 9999, 10000, 65536, Integer.MAX_VALUE};
    private static final int[] LETTERS = {Integer.MIN_VALUE, -256, -1, 0, 1, 97, 254, 255, 256, 353, Integer.MAX_VALUE};

    /** The refusal that is due in a scene, or FINE. */
    private interface Rule {
        int of(Scene s, int a, int b, int c);
    }

    private record Part(String call, String refusals, int[] first, int[] second, int[] third, Rule rule) { }

    /**
     * What is so in a scene, by the document and not by asking: each deal as F free, L lost, O open, D doomed, S sent,
     * how many commits, letters, a fault, whether each validator has a vote to give, whether one can be settled.
     */
    private record Scene(String lines, String text, String deals, int commits, boolean fault, boolean vote0, boolean vote1,
            boolean settles) {
        char deal(int d) {
            return deals.charAt(d);
        }

        boolean anySent() {
            return deals.indexOf('S') >= 0;
        }

        int sentOnes() {
            return (int) deals.chars().filter(c -> c == 'S').count();
        }
    }

    private static final String MIXED = "limit 1, put 0 1, put 4 4, begin 1, begin 2, begin 3, begin 4, read 2 0, abort 3, "
            + "lay 1 0 5, read 4 1, put 1 1, commit 1 2, begin 1, lay 1 7 70, read 1 5";
    private static final List<Scene> SCENES = List.of(
            new Scene("count 0", "", "FFFFFF", 0, true, false, false, false),
            new Scene("begin 0, begin 5, lay 0 7 7, lay 5 7 8, read 5 7", "all", "OFFFFO", 0, false, false, false, false),
            new Scene(MIXED, "begin 6", "FODLOF", 4, true, false, false, false),
            new Scene(MIXED + ", begin 5, read 5 7, send 5, send 4, vote 0", "limit 9;begin 0", "FODLSS", 4, false, true, true, false),
            new Scene(MIXED + ", begin 5, read 5 7, send 5, send 4, vote 0, vote 0, vote 1", "x", "FODLSS", 4, true, false, true, true),
            new Scene("put 3 3, begin 0, read 0 3, lay 0 4 4, begin 2, abort 2, retry 2, abort 2", " ".repeat(195) + "all ?",
                    "OFLFFF", 1, true, false, false, false),
            new Scene("begin 3, send 3, vote 1", "item 7 9" + " ".repeat(192), "FFFSFF", 0, false, true, false, false));

    private final Book book;
    private final Checks checks;
    /** Of each scene, of an object that was not asked: what is seen, and what comes then. */
    private final List<String> seen = new ArrayList<>();
    private final List<String> then = new ArrayList<>();

    Refusals(Book book, Checks checks) {
        this.book = book;
        this.checks = checks;
    }

    void all() {
        book.open("Terms", "Refused, and nothing changes");
        for (Scene s : SCENES) {
            scenesAreAsTold(s);
            seen.add(start(s, "untouched").seen());
            then.add(start(s, "untouched").aftermath());
        }
        text();
        deals();
        votes();
        looks();
    }

    private void text() {
        refused("2", "OUTSIDE; FULL", new Part("write", "OUTSIDE FULL", LETTERS, NOTHING, NOTHING,
                (s, a, b, c) -> a < 0 || a > 255 ? OUTSIDE : s.text.length() == 200 ? FULL : FINE));
        refused("5", "NOT: it has a FAULT", new Part("tell", "NOT", NOTHING, NOTHING, NOTHING,
                (s, a, b, c) -> s.fault ? NOT : FINE));
        refused("6", "UNKNOWN; OUTSIDE", new Part("item", "UNKNOWN OUTSIDE", ITEMS, WHATS, NOTHING,
                (s, a, b, c) -> !item(a) ? UNKNOWN : within(b, 0, 1) ? FINE : OUTSIDE));
        refused("7", "UNKNOWN; OUTSIDE; NOT", new Part("put", "UNKNOWN OUTSIDE NOT", ITEMS, VALUES, NOTHING,
                (s, a, b, c) -> !item(a) ? UNKNOWN : !within(b, 0, 9999) ? OUTSIDE : s.anySent() ? NOT : FINE));
        refused("8", "OUTSIDE", new Part("limit", "OUTSIDE", LIMITS, NOTHING, NOTHING,
                (s, a, b, c) -> within(a, 1, 9) ? FINE : OUTSIDE));
    }

    private void deals() {
        refused("9", "UNKNOWN; NOT", new Part("begin", "UNKNOWN NOT", DEALS, NOTHING, NOTHING,
                (s, a, b, c) -> !deal(a) ? UNKNOWN : s.deal(a) == 'F' || s.deal(a) == 'L' ? FINE : NOT));
        refused("10", "UNKNOWN; NOT", new Part("retry", "UNKNOWN NOT", DEALS, NOTHING, NOTHING,
                (s, a, b, c) -> !deal(a) ? UNKNOWN : s.deal(a) == 'L' ? FINE : NOT));
        refused("11", "UNKNOWN (DEAL, ITEM); NOT", new Part("read", "UNKNOWN NOT", DEALS, ITEMS, NOTHING,
                (s, a, b, c) -> !deal(a) || !item(b) ? UNKNOWN : s.deal(a) == 'O' ? FINE : NOT));
        refused("12", "UNKNOWN (DEAL, ITEM); OUTSIDE; NOT", new Part("lay", "UNKNOWN OUTSIDE NOT", DEALS, ITEMS, VALUES,
                (s, a, b, c) -> !deal(a) || !item(b) ? UNKNOWN : !within(c, 0, 9999) ? OUTSIDE : s.deal(a) == 'O' ? FINE : NOT));
        Rule checked = (s, a, b, c) -> !deal(a) ? UNKNOWN : !within(b, 0, 2) ? OUTSIDE : s.deal(a) != 'O' || s.anySent() ? NOT : FINE;
        refused("13", "UNKNOWN; OUTSIDE; NOT", new Part("commit", "UNKNOWN OUTSIDE NOT", DEALS, WAYS, NOTHING, checked));
        refused("14", "UNKNOWN; OUTSIDE; NOT", new Part("peek", "UNKNOWN OUTSIDE NOT", DEALS, WAYS, NOTHING, checked));
        refused("15", "UNKNOWN; NOT", new Part("abort", "UNKNOWN NOT", DEALS, NOTHING, NOTHING,
                (s, a, b, c) -> !deal(a) ? UNKNOWN : s.deal(a) == 'O' || s.deal(a) == 'D' ? FINE : NOT));
        refused("17", "UNKNOWN; NOT", new Part("send", "UNKNOWN NOT", DEALS, NOTHING, NOTHING,
                (s, a, b, c) -> !deal(a) ? UNKNOWN : s.deal(a) == 'O' ? FINE : NOT));
    }

    private void votes() {
        refused("18", "UNKNOWN; NOT", new Part("vote", "UNKNOWN NOT", VALIDATORS, NOTHING, NOTHING,
                (s, a, b, c) -> a == 0 ? s.vote0 ? FINE : NOT : a == 1 ? s.vote1 ? FINE : NOT : UNKNOWN));
        refused("19", "NOT: none is SENT", new Part("settle", "NOT", NOTHING, NOTHING, NOTHING,
                (s, a, b, c) -> s.settles ? FINE : NOT));
        refused("22", "UNKNOWN", new Part("sent", "UNKNOWN", PLACES, NOTHING, NOTHING,
                (s, a, b, c) -> within(a, 0, s.sentOnes() - 1) ? FINE : UNKNOWN));
        refused("23", "UNKNOWN; NOT", new Part("ballot", "UNKNOWN NOT", VALIDATORS, DEALS, NOTHING,
                (s, a, b, c) -> !within(a, 0, 1) || !deal(b) ? UNKNOWN : s.deal(b) == 'S' ? FINE : NOT));
    }

    private void looks() {
        refused("20", "UNKNOWN; OUTSIDE", new Part("deal", "UNKNOWN OUTSIDE", DEALS, WHATS, NOTHING,
                (s, a, b, c) -> !deal(a) ? UNKNOWN : within(b, 0, 11) ? FINE : OUTSIDE));
        refused("21", "UNKNOWN; OUTSIDE", new Part("noted", "UNKNOWN OUTSIDE", DEALS, ITEMS, WAYS,
                (s, a, b, c) -> !deal(a) || !item(b) ? UNKNOWN : within(c, 0, 2) ? FINE : OUTSIDE));
        refused("24", "UNKNOWN; OUTSIDE", new Part("log", "UNKNOWN OUTSIDE", COMMITS, WHATS, NOTHING,
                (s, a, b, c) -> !within(a, 1, s.commits) ? UNKNOWN : within(b, 0, 5) ? FINE : OUTSIDE));
        refused("25", "UNKNOWN; OUTSIDE", new Part("logged", "UNKNOWN OUTSIDE", COMMITS, ITEMS, WAYS,
                (s, a, b, c) -> !within(a, 1, s.commits) || !item(b) ? UNKNOWN : within(c, 0, 1) ? FINE : OUTSIDE));
        refused("26", "UNKNOWN (the latter is not the earlier one, too)", new Part("behind", "UNKNOWN", COMMITS, COMMITS, NOTHING,
                (s, a, b, c) -> within(a, 1, s.commits) && within(b, 1, s.commits) && b < a ? FINE : UNKNOWN));
        refused("27", "OUTSIDE", new Part("count", "OUTSIDE", WHATS, NOTHING, NOTHING,
                (s, a, b, c) -> within(a, 0, 10) ? FINE : OUTSIDE));
        // these are never refused; fault() looks alone
        Rule never = (s, a, b, c) -> FINE;
        for (String call : new String[] {"erase", "fault", "sweep"}) {
            made(new Part(call, "", NOTHING, NOTHING, NOTHING, never));
        }
    }

    private void refused(String section, String beginning, Part part) {
        book.open(section, beginning);
        made(part);
    }

    private void made(Part part) {
        Set<Integer> met = new TreeSet<>();
        for (int n = 0; n < SCENES.size(); n++) {
            for (int a : part.first) {
                for (int b : part.second) {
                    for (int c : part.third) {
                        met.add(made(part, n, a, b, c));
                    }
                }
            }
        }
        // else the scenes would be too poor
        for (String refusal : new String[] {"UNKNOWN", "OUTSIDE", "NOT", "FULL"}) {
            boolean named = Set.of(part.refusals.split(" ")).contains(refusal);
            checks.due(part.call + "() is refused with " + refusal, met.contains(code(refusal)) ? 1 : 0, named ? 1 : 0);
        }
        checks.due(part.call + "() is not always refused", met.contains(FINE) ? 1 : 0, 1);
    }

    private int made(Part part, int scene, int a, int b, int c) {
        Scene s = SCENES.get(scene);
        String told = part.call + "(" + a + ", " + b + ", " + c + ") in scene " + scene;
        Run run = start(s, told);
        int want = part.rule.of(s, a, b, c);
        int got = run.call(part.call, a, b, c);
        if (want == FINE) {
            checks.due(told + " is not refused", isRefusal(got) ? got : FINE, FINE);
        } else {
            checks.due(told, got, want);
        }
        if (want != FINE || LOOKING.contains(part.call)) {
            Run twin = start(s, told);
            twin.call(part.call, a, b, c);
            book.same(told + " changes nothing that is seen", run.seen(), seen.get(scene));
            book.same(told + " changes nothing that comes", twin.aftermath(), then.get(scene));
        }
        return want;
    }

    private Run start(Scene s, String title) {
        return new Run(checks, title).does(s.lines).write(s.text);
    }

    /** The scenes themselves: what their calls make is what they tell. */
    private void scenesAreAsTold(Scene s) {
        Run run = start(s, "scene " + SCENES.indexOf(s));
        for (int d = 0; d < 6; d++) {
            char state = s.deal(d);
            run.does("deal " + d + " 0 = " + "FODS".indexOf(state == 'L' ? 'F' : state) + ", deal " + d + " 6 = " + (state == 'L' ? 1 : 0));
        }
        run.does("count 0 = " + s.commits + ", count 9 = " + s.text.length() + ", count 2 = " + s.sentOnes());
    }

    private static int code(String refusal) {
        return switch (refusal) {
            case "UNKNOWN" -> UNKNOWN;
            case "OUTSIDE" -> OUTSIDE;
            case "NOT" -> NOT;
            default -> FULL;
        };
    }

    private static boolean isRefusal(int answer) {
        return answer == UNKNOWN || answer == OUTSIDE || answer == NOT || answer == FULL;
    }

    private static boolean item(int item) {
        return within(item, 0, 7);
    }

    private static boolean deal(int deal) {
        return within(deal, 0, 5);
    }

    private static boolean within(int n, int least, int most) {
        return n >= least && n <= most;
    }

    private static int[] edges(int from, int to) {
        int[] all = new int[to - from + 1 + FAR.length];
        for (int n = from; n <= to; n++) {
            all[n - from] = n;
        }
        System.arraycopy(FAR, 0, all, to - from + 1, FAR.length);
        return all;
    }
}
