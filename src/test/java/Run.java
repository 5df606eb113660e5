/**
 * An object and the calls that it has had, told as text. The document lets an object be used for 512 calls: a test
 * that asks one more often is a mistake of the test.
 */
final class Run {
    private static final int CALLS_MOST = 512;

    private final LateChecks x;
    private final Checks checks;
    private final String title;
    private int calls;

    Run(Checks checks, String title) {
        this(new LateChecks(), checks, title);
    }

    private Run(LateChecks x, Checks checks, String title) {
        this.x = x;
        this.checks = checks;
        this.title = title;
    }

    /** All that can be seen of an object, so that it can be held against another one of the same calls. */
    static String seen(LateChecks x) {
        return new Run(x, new Checks(), "seen").seen();
    }

    int call(String name, int... numbers) {
        calls++;
        if (calls > CALLS_MOST) {
            throw new IllegalStateException(title + ": the test asks one object more than 512 times");
        }
        int a = numbers.length > 0 ? numbers[0] : 0;
        int b = numbers.length > 1 ? numbers[1] : 0;
        int c = numbers.length > 2 ? numbers[2] : 0;
        return Calls.answer(x, name, a, b, c);
    }

    int callsMade() {
        return calls;
    }

    /** Each line: calls with ", " between, each with " = answer" where one is due; or "text " and letters to write. */
    Run does(String... lines) {
        for (String line : lines) {
            if (line.startsWith("text ")) {
                write(line.substring(5));
            } else {
                for (String told : line.split(", ")) {
                    one(told);
                }
            }
        }
        return this;
    }

    /** The call with 0, 1 .. as its last number, and the answers that are due. */
    Run row(String told, int... due) {
        for (int last = 0; last < due.length; last++) {
            one(told + " " + last + " = " + due[last]);
        }
        return this;
    }

    Run write(String letters) {
        for (int i = 0; i < letters.length(); i++) {
            call("write", letters.charAt(i));
        }
        return this;
    }

    /** Writes the letters and has them told; a text with a fault is a mistake of the test. */
    Run told(String letters) {
        write(letters);
        if (call("tell") < 0) {
            throw new IllegalStateException(title + ": a fault in the test's own text: " + letters);
        }
        return this;
    }

    private void one(String told) {
        String[] halves = told.split(" = ");
        String[] words = halves[0].split(" ");
        int[] numbers = new int[words.length - 1];
        for (int w = 1; w < words.length; w++) {
            numbers[w - 1] = number(words[w]);
        }
        int got = call(words[0], numbers);
        if (halves.length > 1) {
            checks.due(title + ": call " + calls + ", " + halves[0], got, number(halves[1]));
        }
    }

    private static int number(String word) {
        return switch (word) {
            case "NONE" -> LateChecks.NONE;
            case "UNKNOWN" -> LateChecks.UNKNOWN;
            case "OUTSIDE" -> LateChecks.OUTSIDE;
            case "NOT" -> LateChecks.NOT;
            case "FULL" -> LateChecks.FULL;
            case "STALE" -> LateChecks.STALE;
            case "VAIN" -> LateChecks.VAIN;
            case "YIELDS" -> LateChecks.YIELDS;
            case "MIN" -> Integer.MIN_VALUE;
            case "MAX" -> Integer.MAX_VALUE;
            default -> Integer.parseInt(word);
        };
    }

    /** Everything that the calls which only look can tell. */
    String seen() {
        StringBuilder all = new StringBuilder();
        see(all, "count", 11);
        all.append(call("fault"));
        for (int i = 0; i < 8; i++) {
            see(all.append("\nitem ").append(i).append(':'), "item", 2, i);
        }
        for (int d = 0; d < 6; d++) {
            see(all.append("\ndeal ").append(d).append(':'), "deal", 12, d);
            for (int i = 0; i < 8; i++) {
                see(all.append(','), "noted", 3, d, i);
            }
            all.append(call("sent", d)).append(' ').append(call("ballot", 0, d)).append(call("ballot", 1, d));
        }
        int commits = call("count", 0);
        for (int c = 1; c <= commits; c++) {
            see(all.append("\ncommit ").append(c).append(':'), "log", 6, c);
            for (int i = 0; i < 8; i++) {
                see(all.append(','), "logged", 2, c, i);
            }
        }
        return all.toString();
    }

    private void see(StringBuilder all, String name, int many, int... ahead) {
        int[] numbers = java.util.Arrays.copyOf(ahead, ahead.length + 1);
        for (int what = 0; what < many; what++) {
            numbers[ahead.length] = what;
            all.append(call(name, numbers)).append(' ');
        }
    }

    /** What looking alone cannot tell, such as the letters of the text and the next ticket: it shows in what comes. */
    String aftermath() {
        StringBuilder all = new StringBuilder("then: ");
        for (String told : new String[] {"tell", "sweep", "settle", "vote 0", "vote 1", "settle", "vote 1", "settle"}) {
            String[] words = told.split(" ");
            all.append(words.length > 1 ? call(words[0], number(words[1])) : call(words[0])).append(' ');
        }
        for (int d = 0; d < 6; d++) {
            all.append(call("retry", d)).append(' ').append(call("begin", d)).append(' ').append(call("read", d, d)).append(' ');
            all.append(call("send", d)).append(' ');
        }
        see(all, "count", 11);
        return all.toString();
    }
}
