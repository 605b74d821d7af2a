/** Promise 4: plans of bays of every kind (up to the boxes' numbers) against those of the model. */
public final class PlanSearchTest {
    private static final Check CHECK = new Check();

    /** Tells a bay to both: false if the document refuses a box or a need of it. */
    private static boolean tell(MoveOrder x, Model y, int boxes, int[] bay) {
        int stacks = bay[0];
        for (int i = 0; i < boxes; i++) {
            int stack = stacks % 3;
            int port = bay[1] >> i & 1;
            stacks /= 3;
            String told = Check.told(() -> y.box(0, stack, port));
            CHECK.same("box", told, Check.told(() -> x.box(0, stack, port)));
            if (told.startsWith("throws")) {
                return false;
            }
        }
        for (int bit = 0; bit < boxes * boxes; bit++) {
            if ((bay[2] >> bit & 1) != 0) {
                long told = y.before(bit / boxes, bit % boxes);
                CHECK.due("before", told, x.before(bit / boxes, bit % boxes) ? 1 : 0);
                if (told == 0) {
                    return false;
                }
            }
        }
        return true;
    }

    private static void compare(int tiers, int boxes, int[] bay) {
        MoveOrder x = new MoveOrder(1, tiers);
        Model y = new Model(1, tiers);
        if (!tell(x, y, boxes, bay)) {
            return;
        }
        String call = "tiers " + tiers + ", boxes " + boxes + ", stacks " + bay[0] + ", ports " + bay[1]
            + ", needs " + bay[2];
        long moves = y.plan(0);
        CHECK.due(call, moves, x.plan(0));
        CHECK.due(call + " least", y.least(0), x.least(0));
        StringBuilder want = new StringBuilder();
        for (int i = 0; i < moves; i++) {
            want.append(i == 0 ? "" : " ").append(y.move(0, i, 0)).append(':').append(y.move(0, i, 1))
                .append('>').append(y.move(0, i, 2));
        }
        CHECK.same(call, want.toString(), Check.planned(x, 0));
    }

    private static boolean needsFit(int boxes, int ports, int needs) {
        for (int bit = 0; bit < boxes * boxes; bit++) {
            boolean none = bit / boxes == bit % boxes || (ports >> bit / boxes & 1) != 0
                || (ports >> bit % boxes & 1) != 0;
            if (none && (needs >> bit & 1) != 0) {
                return false;
            }
        }
        return true;
    }

    public static void main(String[] args) {
        int[] threes = {1, 3, 9, 27, 81};
        for (int boxes = 0; boxes <= 4; boxes++) {
            for (int ports = 0; ports < 1 << boxes; ports++) {
                for (int needs = 0; needs < 1 << boxes * boxes; needs++) {
                    if (!needsFit(boxes, ports, needs)) {
                        continue;
                    }
                    for (int stacks = 0; stacks < threes[boxes]; stacks++) {
                        for (int tiers = 1; tiers <= 4; tiers++) {
                            compare(tiers, boxes, new int[] {stacks, ports, needs});
                        }
                    }
                }
            }
        }
        CHECK.end();
    }
}
