/** The calls of the class by their names, so that tests can tell them as text and count them. */
final class Calls {
    static final String[] NAMES = {
        "write", "erase", "fault", "tell", "item", "put", "limit", "begin", "retry", "read", "lay", "commit", "peek",
        "abort", "sweep", "send", "vote", "settle", "deal", "noted", "sent", "ballot", "log", "logged", "behind", "count",
    };

    private Calls() { }

    static int answer(LateChecks x, String name, int a, int b, int c) {
        return switch (name) {
            case "write" -> x.write(a);
            case "erase" -> x.erase();
            case "fault" -> x.fault();
            case "tell" -> x.tell();
            case "item" -> x.item(a, b);
            case "put" -> x.put(a, b);
            case "limit" -> x.limit(a);
            case "begin" -> x.begin(a);
            case "retry" -> x.retry(a);
            case "read" -> x.read(a, b);
            case "lay" -> x.lay(a, b, c);
            case "commit" -> x.commit(a, b);
            case "peek" -> x.peek(a, b);
            case "abort" -> x.abort(a);
            case "sweep" -> x.sweep();
            case "send" -> x.send(a);
            case "vote" -> x.vote(a);
            case "settle" -> x.settle();
            case "deal" -> x.deal(a, b);
            case "noted" -> x.noted(a, b, c);
            case "sent" -> x.sent(a);
            case "ballot" -> x.ballot(a, b);
            case "log" -> x.log(a, b);
            case "logged" -> x.logged(a, b, c);
            case "behind" -> x.behind(a, b);
            case "count" -> x.count(a);
            default -> throw new IllegalArgumentException("no such call: " + name);
        };
    }
}
