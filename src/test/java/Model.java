import java.util.ArrayList;
import java.util.List;
import java.util.Map;
import java.util.TreeMap;
import java.util.regex.Matcher;
import java.util.regex.Pattern;

/**
 * The document's terms word by word, without any thought of speed or room: sets and maps instead of bits and rows,
 * and everything that can be told from the history is looked up in it. It shares no code with the class.
 */
final class Model {
    static final int NONE = -1, UNKNOWN = -2, OUTSIDE = -3, NOT = -4, FULL = -5, STALE = -11, VAIN = -12, YIELDS = -13;

    enum State { FREE, OPEN, DOOMED, SENT }

    record Note(int value, int stamp) { }

    record Commit(int deal, int age, int tries, Map<Integer, Note> reads, Map<Integer, Integer> writes, int way) { }

    static final class Deal {
        State state = State.FREE;
        boolean lost;
        int start, age, tries;
        Integer ticket;
        Map<Integer, Note> reads = new TreeMap<>();
        Map<Integer, Integer> writes = new TreeMap<>();
        Map<Integer, Boolean> votes = new TreeMap<>();
    }

    String text = "";
    List<Commit> history;
    List<Deal> deals;
    int limit, begins, tickets, fails, vains, yields;

    Model() {
        atFirst();
    }

    void atFirst() {
        history = new ArrayList<>();
        deals = new ArrayList<>();
        for (int d = 0; d < 6; d++) {
            deals.add(new Deal());
        }
        limit = 3;
        begins = tickets = fails = vains = yields = 0;
    }

    // ---- terms

    int stamp(int item) {
        for (int c = history.size(); c >= 1; c--) {
            if (history.get(c - 1).writes.containsKey(item)) {
                return c;
            }
        }
        return 0;
    }

    int value(int item) {
        return stamp(item) == 0 ? 0 : history.get(stamp(item) - 1).writes.get(item);
    }

    static int bits(Iterable<Integer> places) {
        int sum = 0;
        for (int p : places) {
            sum += 1 << p;
        }
        return sum;
    }

    List<Integer> stale(Deal d) {
        return d.reads.keySet().stream().filter(i -> stamp(i) != d.reads.get(i).stamp).toList();
    }

    List<Integer> crossed(Deal d) {
        List<Commit> since = d.state == State.FREE ? List.of() : history.subList(d.start, history.size());
        return d.reads.keySet().stream().filter(i -> since.stream().anyMatch(c -> c.writes.containsKey(i))).toList();
    }

    List<Integer> rivals(Deal d) {
        List<Integer> found = new ArrayList<>();
        for (int o = 0; o < 6; o++) {
            Deal other = deals.get(o);
            if (other != d && other.state == State.OPEN && d.writes.keySet().stream().anyMatch(other.reads::containsKey)) {
                found.add(o);
            }
        }
        return found;
    }

    boolean stubborn(Deal d) {
        return d.tries >= limit;
    }

    List<Deal> sentOnes() {
        return deals.stream().filter(d -> d.state == State.SENT).sorted((a, b) -> a.ticket - b.ticket).toList();
    }

    int fails(Deal d, int why) {
        Deal lost = new Deal();
        lost.lost = true;
        lost.age = d.age;
        lost.tries = d.tries;
        deals.set(deals.indexOf(d), lost);
        fails++;
        vains += why == VAIN ? 1 : 0;
        yields += why == YIELDS ? 1 : 0;
        return why;
    }

    int commits(Deal d, int way) {
        int number = deals.indexOf(d);
        history.add(new Commit(number, d.age, d.tries, d.reads, d.writes, way));
        deals.set(number, new Deal());
        return history.size();
    }

    Deal dealOf(int deal) {
        return deal >= 0 && deal <= 5 ? deals.get(deal) : null;
    }

    static boolean isItem(int item) {
        return item >= 0 && item <= 7;
    }

    // ---- the text, by rules on the whole of what may still come

    static final String[] FORMS = {"all", "item I V", "limit N", "begin D", "read D I", "write D I V", "send D"};

    record Token(String letters, int place) { }

    static List<Token> tokens(String text) {
        List<Token> found = new ArrayList<>();
        Matcher m = Pattern.compile("[a-z]+|[0-9]+|[^ ]", Pattern.DOTALL).matcher(text);
        while (m.find()) {
            found.add(new Token(m.group(), m.start()));
        }
        return found;
    }

    static boolean fits(String sign, String token) {
        if (sign.length() > 1) {
            return sign.equals(token);
        }
        if (!token.matches("[0-9]{1,4}")) {
            return false;
        }
        int n = Integer.parseInt(token);
        return switch (sign) {
            case "I" -> n <= 7;
            case "V" -> n <= 9999;
            case "N" -> n >= 1 && n <= 9;
            default -> n <= 5;
        };
    }

    /** The clauses, each as its row of tokens; the fault's place alone, if there is one. */
    record Parsed(int fault, List<List<String>> clauses) { }

    static Parsed parsed(String text) {
        List<List<String>> clauses = new ArrayList<>();
        List<Token> rest = new ArrayList<>(tokens(text));
        while (true) {
            List<String> clause = new ArrayList<>();
            String[] form = null;
            do {
                if (rest.isEmpty()) {
                    return new Parsed(text.length(), null);
                }
                Token t = rest.remove(0);
                if (form == null) {
                    for (String f : FORMS) {
                        if (fits(f.split(" ")[0], t.letters)) {
                            form = f.split(" ");
                        }
                    }
                }
                if (form == null || !fits(form[clause.size()], t.letters)) {
                    return new Parsed(t.place, null);
                }
                clause.add(t.letters);
            } while (clause.size() < form.length);
            clauses.add(clause);
            if (rest.isEmpty()) {
                return new Parsed(NONE, clauses);
            }
            Token t = rest.remove(0);
            if (!t.letters.equals(";") || clauses.size() == 24) {
                return new Parsed(t.place, null);
            }
        }
    }

    // ---- calls, by name

    int call(String name, int a, int b, int c) {
        return switch (name) {
            case "write" -> write(a);
            case "erase" -> erase();
            case "fault" -> parsed(text).fault;
            case "tell" -> tell();
            case "item" -> !isItem(a) ? UNKNOWN : b == 0 ? value(a) : b == 1 ? stamp(a) : OUTSIDE;
            case "put" -> put(a, b);
            case "limit" -> limit(a);
            case "begin" -> begin(a);
            case "retry" -> retry(a);
            case "read" -> read(a, b);
            case "lay" -> lay(a, b, c);
            case "commit" -> commit(a, b, true);
            case "peek" -> commit(a, b, false);
            case "abort" -> abort(a);
            case "sweep" -> sweep();
            case "send" -> send(a);
            case "vote" -> vote(a);
            case "settle" -> settle();
            case "deal" -> deal(a, b);
            case "noted" -> noted(a, b, c);
            case "sent" -> a >= 0 && a < sentOnes().size() ? deals.indexOf(sentOnes().get(a)) : UNKNOWN;
            case "ballot" -> ballot(a, b);
            case "log" -> log(a, b);
            case "logged" -> logged(a, b, c);
            case "behind" -> behind(a, b);
            case "count" -> count(a);
            default -> throw new IllegalArgumentException(name);
        };
    }

    int write(int letter) {
        if (letter < 0 || letter > 255) {
            return OUTSIDE;
        }
        if (text.length() == 200) {
            return FULL;
        }
        text += (char) letter;
        return text.length();
    }

    int erase() {
        int had = text.length();
        text = "";
        return had;
    }

    int tell() {
        Parsed p = parsed(text);
        if (p.fault != NONE) {
            return NOT;
        }
        for (List<String> clause : p.clauses) {
            int[] n = new int[3];
            for (int k = 1; k < clause.size(); k++) {
                n[k - 1] = Integer.parseInt(clause.get(k));
            }
            switch (clause.get(0)) {
                case "all" -> atFirst();
                case "item" -> put(n[0], n[1]);
                case "write" -> lay(n[0], n[1], n[2]);
                default -> call(clause.get(0), n[0], n[1], n[2]);
            }
        }
        text = "";
        return p.clauses.size();
    }

    int put(int item, int v) {
        if (!isItem(item)) {
            return UNKNOWN;
        }
        if (v < 0 || v > 9999) {
            return OUTSIDE;
        }
        if (!sentOnes().isEmpty()) {
            return NOT;
        }
        history.add(new Commit(NONE, 0, 0, Map.of(), Map.of(item, v), 4));
        return history.size();
    }

    int limit(int n) {
        if (n < 1 || n > 9) {
            return OUTSIDE;
        }
        int was = limit;
        limit = n;
        return was;
    }

    int begin(int deal) {
        Deal d = dealOf(deal);
        if (d == null) {
            return UNKNOWN;
        }
        if (d.state != State.FREE) {
            return NOT;
        }
        Deal open = new Deal();
        open.state = State.OPEN;
        open.start = history.size();
        open.age = ++begins;
        deals.set(deal, open);
        return open.age;
    }

    int retry(int deal) {
        Deal d = dealOf(deal);
        if (d == null) {
            return UNKNOWN;
        }
        if (!d.lost) {
            return NOT;
        }
        d.lost = false;
        d.state = State.OPEN;
        d.start = history.size();
        return ++d.tries;
    }

    int read(int deal, int item) {
        Deal d = dealOf(deal);
        if (d == null || !isItem(item)) {
            return UNKNOWN;
        }
        if (d.state != State.OPEN) {
            return NOT;
        }
        if (d.writes.containsKey(item)) {
            return d.writes.get(item);
        }
        d.reads.putIfAbsent(item, new Note(value(item), stamp(item)));
        return d.reads.get(item).value;
    }

    int lay(int deal, int item, int v) {
        Deal d = dealOf(deal);
        if (d == null || !isItem(item)) {
            return UNKNOWN;
        }
        if (v < 0 || v > 9999) {
            return OUTSIDE;
        }
        if (d.state != State.OPEN) {
            return NOT;
        }
        d.writes.put(item, v);
        return d.writes.size();
    }

    int commit(int deal, int way, boolean truly) {
        Deal d = dealOf(deal);
        if (d == null) {
            return UNKNOWN;
        }
        if (way < 0 || way > 2) {
            return OUTSIDE;
        }
        if (d.state != State.OPEN || !sentOnes().isEmpty()) {
            return NOT;
        }
        int why = 0;
        if (way == 0) {
            why = crossed(d).isEmpty() ? 0 : stale(d).isEmpty() ? VAIN : STALE;
        } else if (!stale(d).isEmpty()) {
            why = STALE;
        } else if (way == 2 && rivals(d).stream().map(deals::get).anyMatch(r -> stubborn(r) && !stubborn(d)
                || r.age < d.age && stubborn(r) == stubborn(d))) {
            why = YIELDS;
        }
        if (!truly) {
            return why != 0 ? why : history.size() + 1;
        }
        if (why != 0) {
            return fails(d, why);
        }
        if (way == 2) {
            rivals(d).forEach(r -> deals.get(r).state = State.DOOMED);
        }
        return commits(d, way);
    }

    int abort(int deal) {
        Deal d = dealOf(deal);
        if (d == null) {
            return UNKNOWN;
        }
        if (d.state != State.OPEN && d.state != State.DOOMED) {
            return NOT;
        }
        fails(d, 0);
        return count(1);
    }

    int sweep() {
        List<Deal> all = deals.stream().filter(d -> d.state == State.OPEN && !stale(d).isEmpty()).toList();
        all.forEach(d -> fails(d, 0));
        return all.size();
    }

    int send(int deal) {
        Deal d = dealOf(deal);
        if (d == null) {
            return UNKNOWN;
        }
        if (d.state != State.OPEN) {
            return NOT;
        }
        d.state = State.SENT;
        d.ticket = ++tickets;
        return d.ticket;
    }

    int vote(int validator) {
        if (validator != 0 && validator != 1) {
            return UNKNOWN;
        }
        for (Deal d : sentOnes()) {
            if (!d.votes.containsKey(validator)) {
                boolean no = false;
                for (int i : d.reads.keySet()) {
                    boolean promised = sentOnes().stream().anyMatch(o -> o.ticket < d.ticket
                            && o.votes.getOrDefault(validator, false) && o.writes.containsKey(i));
                    no |= i / 4 == validator && (stale(d).contains(i) || promised);
                }
                d.votes.put(validator, !no);
                return no ? 0 : 1;
            }
        }
        return NOT;
    }

    int settle() {
        if (sentOnes().isEmpty() || sentOnes().get(0).votes.size() < 2) {
            return NOT;
        }
        Deal d = sentOnes().get(0);
        if (d.votes.containsValue(false)) {
            return fails(d, stale(d).isEmpty() ? VAIN : STALE);
        }
        return commits(d, 3);
    }

    int deal(int deal, int what) {
        Deal d = dealOf(deal);
        if (d == null) {
            return UNKNOWN;
        }
        return switch (what) {
            case 0 -> d.state.ordinal();
            case 1 -> d.state == State.FREE ? 0 : d.start;
            case 2 -> d.age;
            case 3 -> d.tries;
            case 4 -> bits(d.reads.keySet());
            case 5 -> bits(d.writes.keySet());
            case 6 -> d.lost ? 1 : 0;
            case 7 -> stubborn(d) ? 1 : 0;
            case 8 -> bits(stale(d));
            case 9 -> bits(crossed(d));
            case 10 -> bits(rivals(d));
            case 11 -> d.state == State.SENT ? d.ticket : NONE;
            default -> OUTSIDE;
        };
    }

    int noted(int deal, int item, int what) {
        Deal d = dealOf(deal);
        if (d == null || !isItem(item)) {
            return UNKNOWN;
        }
        Note n = d.reads.getOrDefault(item, new Note(NONE, NONE));
        return switch (what) {
            case 0 -> n.value;
            case 1 -> n.stamp;
            case 2 -> d.writes.getOrDefault(item, NONE);
            default -> OUTSIDE;
        };
    }

    int ballot(int validator, int deal) {
        Deal d = dealOf(deal);
        if (d == null || validator != 0 && validator != 1) {
            return UNKNOWN;
        }
        if (d.state != State.SENT) {
            return NOT;
        }
        return d.votes.containsKey(validator) ? (d.votes.get(validator) ? 1 : 0) : NONE;
    }

    Commit commitOf(int commit) {
        return commit >= 1 && commit <= history.size() ? history.get(commit - 1) : null;
    }

    int log(int commit, int what) {
        Commit c = commitOf(commit);
        if (c == null) {
            return UNKNOWN;
        }
        return switch (what) {
            case 0 -> c.deal;
            case 1 -> c.age;
            case 2 -> c.tries;
            case 3 -> bits(c.reads.keySet());
            case 4 -> bits(c.writes.keySet());
            case 5 -> c.way;
            default -> OUTSIDE;
        };
    }

    int logged(int commit, int item, int what) {
        Commit c = commitOf(commit);
        if (c == null || !isItem(item)) {
            return UNKNOWN;
        }
        return switch (what) {
            case 0 -> c.reads.containsKey(item) ? c.reads.get(item).stamp : NONE;
            case 1 -> c.writes.getOrDefault(item, NONE);
            default -> OUTSIDE;
        };
    }

    int behind(int commit, int earlier) {
        Commit c = commitOf(commit);
        Commit e = commitOf(earlier);
        if (c == null || e == null || earlier >= commit) {
            return UNKNOWN;
        }
        boolean read = c.reads.values().stream().anyMatch(n -> n.stamp == earlier);
        boolean both = c.writes.keySet().stream().anyMatch(e.writes::containsKey);
        boolean over = c.writes.keySet().stream().anyMatch(e.reads::containsKey);
        return (read ? 1 : 0) + (both ? 2 : 0) + (over ? 4 : 0);
    }

    int many(State state) {
        return (int) deals.stream().filter(d -> d.state == state).count();
    }

    int count(int what) {
        return switch (what) {
            case 0 -> history.size();
            case 1 -> many(State.OPEN);
            case 2 -> many(State.SENT);
            case 3 -> many(State.DOOMED);
            case 4 -> fails;
            case 5 -> vains;
            case 6 -> yields;
            case 7 -> begins;
            case 8 -> limit;
            case 9 -> text.length();
            case 10 -> java.util.stream.IntStream.range(0, 8).map(this::value).sum();
            default -> OUTSIDE;
        };
    }
}
