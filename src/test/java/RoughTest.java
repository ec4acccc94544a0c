import java.util.Random;

/**
 * Calls with any arguments in any state: none may throw, none may fail to
 * end, and the same calls always give the same answers.
 */
public final class RoughTest {
    private static final int[] EDGES = {
        -2000001, -2000000, -1000001, -1000000, -1001, -1000, -101, -100, -6, -5, -4, -3, -2, -1, 0, 1, 2, 3, 4, 5,
        6, 7, 8, 20, 21, 39, 40, 41, 100, 101, 1000, 1001, 9999, 10000, 10001, 34460, 34461, 34501, 36141, 68920,
        68921, 1000000, 1000001, 43046720, 43046721, Integer.MIN_VALUE, Integer.MAX_VALUE
    };

    private static int number(Random random) {
        switch (random.nextInt(4)) {
            case 0:
                return EDGES[random.nextInt(EDGES.length)];
            case 1:
                return random.nextInt(68921);
            default:
                return random.nextInt(5) - 1;
        }
    }

    private static int tellsNumber(Random random) {
        int number = 0;
        for (int p = 0; p < 16; p++) {
            number = 3 * number + (random.nextInt(4) == 0 ? 1 + random.nextInt(2) : 0);
        }
        return number;
    }

    private static long change(EndingCourt x, Random random) {
        int a = number(random);
        int b = number(random);
        switch (random.nextInt(11)) {
            case 0:
                return random.nextInt(12) == 0 ? x.loop(a) : x.body();
            case 1:
                return x.body();
            case 2:
                return x.guard(a, b, number(random));
            case 3:
                return x.rule(a, b, number(random), number(random));
            case 4:
                return x.set(a, b);
            case 5:
                return x.run(a);
            case 6:
                return x.begin(a, b, number(random));
            case 7:
                return x.round(a);
            case 8:
                return random.nextInt(6) == 0 ? x.open() : x.round(1 + random.nextInt(20));
            case 9:
                return random.nextInt(12) == 0 ? x.clear() : x.call(a, b, number(random));
            default:
                return x.call(random.nextInt(3), random.nextInt(3), tellsNumber(random));
        }
    }

    private static long ask(EndingCourt x, Random random) {
        int a = number(random);
        int b = number(random);
        switch (random.nextInt(15)) {
            case 0:
                return x.many(a);
            case 1:
                return x.at(a);
            case 2:
                return x.turn();
            case 3:
                return x.ring(a);
            case 4:
                return x.ahead();
            case 5:
                return x.ranks(a, b, number(random));
            case 6:
                return x.tells(number(random), a, b, number(random));
            case 7:
                return x.floor(a, b, number(random));
            case 8:
                return random.nextBoolean() ? x.rank(a) : x.rows(a);
            case 9:
                return x.found(a, b);
            case 10:
                return x.by(a);
            case 11:
                return x.bound();
            case 12:
                return x.box(a, b);
            case 13:
                return random.nextInt(8) == 0 ? x.ending() : x.made();
            default:
                return x.witness(a);
        }
    }

    private static long answers(long seed) {
        Random random = new Random(seed);
        EndingCourt x = new EndingCourt();
        long mixed = 0;
        for (int call = 0; call < 512; call++) {
            long answer = random.nextBoolean() ? change(x, random) : ask(x, random);
            mixed = 31 * mixed + answer;
        }
        return mixed;
    }

    public static void main(String[] args) {
        int wrong = 0;
        for (long seed = 0; seed < 400; seed++) {
            if (answers(seed) != answers(seed)) {
                wrong++;
                System.out.println("seed " + seed + ": not the same answers twice");
            }
        }
        System.out.println(wrong == 0 ? "no call threw, and all answers came twice" : wrong + " wrong");
        if (wrong != 0) {
            System.exit(1);
        }
    }
}
