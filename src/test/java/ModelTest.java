import java.util.Random;

/** Promises 1 to 27 together: long runs of calls, by fixed seeds, each answer held against the model's. */
public final class ModelTest {
    private static final Checks CHECKS = new Checks();
    private static final int RUNS = 9000, CALLS = 512;
    /** How often each of Calls.NAMES is called: what moves things along often, what ends them seldom. */
    private static final int[] WEIGHTS = {
        0, 1, 1, 1, 8, 3, 1, 14, 14, 60, 40, 7, 8, 1, 1, 5, 9, 5, 30, 12, 3, 5, 8, 10, 12, 10,
    };
    private static final String[] PIECES = {
        "all", "item", "limit", "begin", "read", "write", "send", ";", ";", ";", " ", " ", "0", "1", "5", "6", "7", "8", "9",
        "10", "9999", "10000", "0003", "x", "-", "\t", "A", "" + (char) 255, "alls",
    };

    private final LateChecks x = new LateChecks();
    private final Model model = new Model();
    private final Random random;
    private final boolean calm;
    private final int textsInHundred;
    private final StringBuilder told = new StringBuilder();
    private int calls;
    private boolean same = true;

    private ModelTest(int seed) {
        random = new Random(seed);
        // in a calm run nothing is sent, so that commits are not kept from coming
        calm = seed % 3 == 0;
        // letters take most calls of a run with many texts
        textsInHundred = seed % 5 == 0 ? 4 : 0;
    }

    public static void main(String[] args) {
        for (int seed = 0; seed < RUNS; seed++) {
            ModelTest run = new ModelTest(seed);
            run.go();
            CHECKS.due("run of seed " + seed + run.told, run.same ? 1 : 0, 1);
        }
        CHECKS.end("ModelTest");
    }

    private void go() {
        while (same && calls < CALLS) {
            int dice = random.nextInt(100);
            if (dice < textsInHundred) {
                tellText(random.nextBoolean() ? clausesText() : piecesText());
            } else {
                String name = weighted();
                if (!(calm && name.equals("send"))) {
                    call(name, argument(name, 0), argument(name, 1), argument(name, 2));
                }
            }
        }
    }

    private String weighted() {
        int sum = 0;
        for (int w : WEIGHTS) {
            sum += w;
        }
        int dice = random.nextInt(sum);
        for (int n = 0; n < Calls.NAMES.length; n++) {
            dice -= WEIGHTS[n];
            if (dice < 0) {
                return Calls.NAMES[n];
            }
        }
        return "count";
    }

    private int argument(String name, int place) {
        int dice = random.nextInt(200);
        if (dice == 0) {
            return random.nextInt();
        }
        if (dice == 1) {
            return random.nextBoolean() ? Integer.MIN_VALUE : Integer.MAX_VALUE;
        }
        return switch (name + place) {
            case "put1", "lay2" -> dice < 10 ? 9998 + random.nextInt(4) : random.nextInt(50) - (dice < 12 ? 10 : 0);
            case "limit0" -> random.nextInt(11);
            case "commit1", "peek1" -> random.nextInt(dice < 6 ? 5 : 3) - (dice < 4 ? 1 : 0);
            case "item1", "logged2" -> random.nextInt(dice < 20 ? 4 : 2) - (dice < 4 ? 1 : 0);
            case "noted2" -> random.nextInt(dice < 20 ? 5 : 3) - (dice < 4 ? 1 : 0);
            case "vote0", "ballot0" -> random.nextInt(dice < 20 ? 4 : 2) - (dice < 4 ? 1 : 0);
            case "deal1", "count0", "log1" -> random.nextInt(name.equals("log") ? 7 : 13) - (dice < 4 ? 1 : 0);
            case "log0", "logged0", "behind0" -> model.history.size() + 2 - random.nextInt(8);
            case "behind1" -> model.history.size() + 1 - random.nextInt(9);
            case "read1", "lay1", "put0", "item0", "noted1", "logged1" -> random.nextInt(dice < 8 ? 10 : 8) - (dice < 4 ? 1 : 0);
            default -> random.nextInt(dice < 8 ? 8 : 6) - (dice < 4 ? 1 : 0);
        };
    }

    private String clausesText() {
        StringBuilder text = new StringBuilder();
        int many = 1 + random.nextInt(random.nextInt(4) == 0 ? 26 : 6);
        for (int k = 0; k < many; k++) {
            String form = Model.FORMS[random.nextInt(k == 0 || random.nextInt(30) == 0 ? 1 : 0, calm ? 6 : 7)];
            form = many > 12 && random.nextInt(5) > 0 ? "item I V" : form;
            StringBuilder clause = new StringBuilder();
            for (String sign : form.split(" ")) {
                clause.append(sign.length() > 1 ? sign : number(sign)).append(" ".repeat(clause.length() == 0 ? 1 : random.nextInt(1, 3)));
            }
            text.append(k == 0 ? "" : ";").append(random.nextInt(20) == 0 ? clause : clause.toString().trim());
        }
        return random.nextInt(20) == 0 ? text + ";" : text.toString();
    }

    private String number(String sign) {
        boolean over = random.nextInt(60) == 0;
        return switch (sign) {
            case "I" -> "" + random.nextInt(over ? 10 : 8);
            case "V" -> "" + random.nextInt(over ? 12000 : 100);
            case "N" -> "" + (over ? random.nextInt(12) : 1 + random.nextInt(4));
            default -> "" + random.nextInt(over ? 8 : 6);
        };
    }

    private String piecesText() {
        StringBuilder text = new StringBuilder();
        for (int k = random.nextInt(12); k > 0; k--) {
            text.append(PIECES[random.nextInt(PIECES.length)]).append(random.nextBoolean() ? " " : "");
        }
        return text.toString();
    }

    private void tellText(String text) {
        // a text takes a call a letter: more than a few of the longest leave no room for other calls
        if (text.length() > 120 && calls > 100) {
            return;
        }
        call("erase", 0, 0, 0);
        for (int i = 0; i < text.length() && calls < CALLS; i++) {
            call("write", text.charAt(i), 0, 0);
        }
        call("fault", 0, 0, 0);
        if (calls < CALLS) {
            call("tell", 0, 0, 0);
        }
    }

    private void call(String name, int a, int b, int c) {
        if (!same || calls >= CALLS) {
            return;
        }
        calls++;
        int want = model.call(name, a, b, c);
        int got = Calls.answer(x, name, a, b, c);
        if (got != want) {
            same = false;
            told.append(", call ").append(calls).append(": ").append(name).append('(').append(a).append(", ").append(b)
                    .append(", ").append(c).append(") answered ").append(got).append(", the model ").append(want).append(';');
        }
    }
}
