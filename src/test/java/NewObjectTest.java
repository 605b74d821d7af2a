/** Promise 1: so many bays and tiers, held to 1 .. 4. */
public final class NewObjectTest {
    private static int baysOf(MoveOrder x) {
        int bays = 0;
        while (x.count(10 + bays) != MoveOrder.NONE) {
            bays++;
        }
        return bays;
    }

    private static int tiersOf(MoveOrder x) {
        int tiers = 0;
        while (tiers < 4) {
            try {
                x.box(0, 0, 1);
            } catch (IllegalStateException full) {
                return tiers;
            }
            tiers++;
        }
        return tiers;
    }

    public static void main(String[] args) {
        Check check = new Check();
        int[] given = {Integer.MIN_VALUE, -1, 0, 1, 2, 3, 4, 5, Integer.MAX_VALUE};
        int[] held = {1, 1, 1, 1, 2, 3, 4, 4, 4};
        for (int i = 0; i < given.length; i++) {
            for (int j = 0; j < given.length; j++) {
                MoveOrder x = new MoveOrder(given[i], given[j]);
                String call = "new MoveOrder(" + given[i] + ", " + given[j] + ")";
                check.due(call + " bays", held[i], baysOf(x));
                for (int what = 0; what <= 4; what++) {
                    check.due(call + " count(" + what + ")", 0, x.count(what));
                }
                for (int bay = 0; bay < held[i]; bay++) {
                    check.due(call + " loads at first", 0, x.count(10 + bay));
                    check.due(call + " no plan at first", -1, x.count(20 + bay));
                }
                check.due(call + " tiers", held[j], tiersOf(x));
            }
        }
        check.end();
    }
}
