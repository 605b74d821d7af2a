import java.util.Random;

/** All promises: runs of 512 calls by chance, always the same ones, against the model. */
public final class RandomRunsTest {
    private static final int RUNS = 600;
    private static final int CALLS = 512;
    private static final Check CHECK = new Check();
    private static final int[] EDGES = {Integer.MIN_VALUE, Integer.MIN_VALUE + 20, -32, -1, 5, 6, 16, 32, 64,
        101, Integer.MAX_VALUE};

    /** A number below a bound, seldom one from the edges, as wrong inputs are. */
    private static int pick(Random random, int bound) {
        return random.nextInt(25) == 0 ? EDGES[random.nextInt(EDGES.length)] : random.nextInt(bound);
    }

    private static String told(int kind, Object it, int a, int b, int c) {
        if (it instanceof MoveOrder x) {
            return Check.told(() -> switch (kind) {
                case 0 -> x.box(a, b, c);
                case 1 -> x.before(a, b) ? 1 : 0;
                case 2 -> x.plan(a);
                case 3 -> x.move(a, b, c);
                case 4 -> x.work(a);
                case 5 -> x.least(a);
                case 6 -> x.loads(a, b);
                case 7 -> x.dual(a);
                case 8 -> x.swap(a, b);
                case 9 -> x.look(a, b);
                default -> x.count(a);
            });
        }
        Model y = (Model) it;
        return Check.told(() -> switch (kind) {
            case 0 -> y.box(a, b, c);
            case 1 -> y.before(a, b);
            case 2 -> y.plan(a);
            case 3 -> y.move(a, b, c);
            case 4 -> y.work(a);
            case 5 -> y.least(a);
            case 6 -> y.loads(a, b);
            case 7 -> y.dual(a);
            case 8 -> y.swap(a, b);
            case 9 -> y.look(a, b);
            default -> y.count(a);
        });
    }

    // The greatest number, plus one, that is worth giving to each argument of each method.
    private static final int[][] BOUNDS = {{4, 3, 6}, {16, 16, 1}, {4, 1, 1}, {4, 9, 4}, {4, 1, 1}, {4, 1, 1},
        {4, 60, 1}, {4, 1, 1}, {16, 16, 1}, {16, 4, 1}, {24, 1, 1}};
    // How often each method is called, by its number.
    private static final int[] OFTEN = {0, 0, 0, 1, 1, 2, 2, 3, 3, 3, 3, 4, 4, 4, 5, 6, 7, 7, 8, 8, 9, 9, 9, 10,
        10, 10};

    private static void run(int seed) {
        Random random = new Random(seed);
        int bays = random.nextInt(6);
        int tiers = random.nextInt(6);
        boolean manyLeave = random.nextBoolean();
        MoveOrder x = new MoveOrder(bays, tiers);
        Model y = new Model(bays, tiers);
        for (int i = 0; i < CALLS; i++) {
            int kind = OFTEN[random.nextInt(OFTEN.length)];
            int a = pick(random, BOUNDS[kind][0]);
            int b = pick(random, BOUNDS[kind][1]);
            int c = pick(random, BOUNDS[kind][2]);
            if (kind == 0 && c > 0 && c < 6) {
                c = manyLeave ? c / 4 : c % 3;
            }
            String call = "run " + seed + ", call " + i + ", method " + kind + " (" + a + ", " + b + ", " + c + ")";
            CHECK.same(call, told(kind, y, a, b, c), told(kind, x, a, b, c));
        }
        for (int what = -1; what < 30; what++) {
            CHECK.same("run " + seed + ", count(" + what + ")", told(10, y, what, 0, 0), told(10, x, what, 0, 0));
        }
        for (int box = 0; box < 17; box++) {
            for (int what = 0; what < 5; what++) {
                CHECK.same("run " + seed + ", look(" + box + ", " + what + ")", told(9, y, box, what, 0),
                    told(9, x, box, what, 0));
            }
        }
    }

    public static void main(String[] args) {
        for (int seed = 0; seed < RUNS; seed++) {
            run(seed);
        }
        CHECK.end();
    }
}
