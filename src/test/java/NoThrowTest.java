import java.util.Random;

/**
 * No call throws or fails to end, whatever its numbers and however many calls came before. The answers are free behind
 * the 512th call; that there is one is not. What is thrown ends the test with another exit code than 0 by itself.
 */
public final class NoThrowTest {
    private static final Checks CHECKS = new Checks();
    private static final int OBJECTS = 300, CALLS = 6000;
    private static final int[] EDGES = {
        Integer.MIN_VALUE, Integer.MIN_VALUE + 1, -65536, -513, -256, -32, -13, -12, -11, -5, -4, -3, -2, -1, 0, 1, 2, 3, 4, 5, 6, 7, 8, 9,
        10, 11, 12, 13, 23, 24, 25, 31, 32, 33, 63, 64, 199, 200, 201, 255, 256, 511, 512, 513, 514, 9999, 10000, 65536,
        Integer.MAX_VALUE - 1, Integer.MAX_VALUE,
    };
    /** Few objects would come to the end of their log, or to a text without a fault, by single calls alone. */
    private static final String[] TEXTS = {
        "all", "item 0 1", "item 7 9999;begin 0;read 0 7;write 0 7 0;send 0", "limit 9;begin 5;send 5", "all;all;all;all;all;all;all;all;"
            + "all;all;all;all;all;all;all;all;all;all;all;all;all;all;all;all", "item 0 1;item 1 1;item 2 1;item 3 1;item 4 1;item 5 1",
    };

    public static void main(String[] args) {
        for (int seed = 0; seed < OBJECTS; seed++) {
            one(new Random(seed), seed % 3);
        }
        CHECKS.end("NoThrowTest");
    }

    /** Kinds: 0 any call, 1 many commits first, 2 many texts between. */
    private static void one(Random random, int kind) {
        LateChecks x = new LateChecks();
        for (int n = 0; kind == 1 && n < 600; n++) {
            x.put(n % 8, n);
        }
        for (int n = 0; n < CALLS; n++) {
            if (kind == 2 && random.nextInt(40) == 0) {
                Checks.tell(x, TEXTS[random.nextInt(TEXTS.length)]);
            }
            String name = Calls.NAMES[random.nextInt(Calls.NAMES.length)];
            Calls.answer(x, name, number(random), number(random), number(random));
        }
        int commits = x.count(0);
        CHECKS.due("count(0) is of a log of 512 at most", commits >= 0 && commits <= 512 ? 1 : 0, 1);
        CHECKS.due("erase() behind all", x.erase() <= 200 ? 1 : 0, 1);
    }

    private static int number(Random random) {
        int dice = random.nextInt(10);
        return dice == 0 ? random.nextInt() : dice < 4 ? EDGES[random.nextInt(EDGES.length)] : random.nextInt(8);
    }
}
