/** Promise 1: so many bays and tiers, held to 1 .. 4. */
public final class NewObjectTest {
    private static final Check CHECK = new Check();
    private static final int[] TOO_SMALL = {Integer.MIN_VALUE, -1, 0};
    private static final int[] TOO_LARGE = {5, 6, 1000, Integer.MAX_VALUE};

    private static void baysDue(String call, MoveOrder x, int want) {
        for (int bay = 0; bay < want; bay++) {
            CHECK.due(call + ", loads of bay " + bay, 0, x.count(10 + bay));
            CHECK.due(call + ", box in bay " + bay, bay, x.box(bay, 0, 1));
        }
        CHECK.due(call + ", loads of bay " + want, -1, x.count(10 + want));
        CHECK.illegal(call + ", box in bay " + want, x, () -> x.box(want, 0, 1));
    }

    private static void tiersDue(String call, MoveOrder x, int want) {
        for (int tier = 0; tier < want; tier++) {
            CHECK.due(call + ", box in tier " + tier, tier, x.box(0, 1, 1));
            CHECK.due(call + ", tier of box " + tier, tier, x.look(tier, 3));
        }
        CHECK.badState(call + ", box in tier " + want, x, () -> x.box(0, 1, 1));
    }

    private static void manyBays() {
        CHECK.sentence("So many bays (1 .. 4)");
        for (int n = 1; n <= 4; n++) {
            baysDue("bays " + n, new MoveOrder(n, 2), n);
        }
    }

    private static void fewerBays() {
        CHECK.sentence("bays held to these, too small");
        for (int n : TOO_SMALL) {
            baysDue("bays " + n, new MoveOrder(n, 2), 1);
        }
    }

    private static void moreBays() {
        CHECK.sentence("bays held to these, too large");
        for (int n : TOO_LARGE) {
            baysDue("bays " + n, new MoveOrder(n, 2), 4);
        }
    }

    private static void manyTiers() {
        CHECK.sentence("tiers (1 .. 4)");
        for (int n = 1; n <= 4; n++) {
            tiersDue("tiers " + n, new MoveOrder(2, n), n);
        }
    }

    private static void fewerTiers() {
        CHECK.sentence("tiers held to these, too small");
        for (int n : TOO_SMALL) {
            tiersDue("tiers " + n, new MoveOrder(2, n), 1);
        }
    }

    private static void moreTiers() {
        CHECK.sentence("tiers held to these, too large");
        for (int n : TOO_LARGE) {
            tiersDue("tiers " + n, new MoveOrder(2, n), 4);
        }
    }

    private static void bothHeld() {
        CHECK.sentence("held to these, both at once");
        for (int small : TOO_SMALL) {
            for (int large : TOO_LARGE) {
                baysDue("bays " + small + ", tiers " + large, new MoveOrder(small, large), 1);
                tiersDue("bays " + small + ", tiers " + large, new MoveOrder(small, large), 4);
                baysDue("bays " + large + ", tiers " + small, new MoveOrder(large, small), 4);
                tiersDue("bays " + large + ", tiers " + small, new MoveOrder(large, small), 1);
            }
        }
    }

    private static void empty() {
        CHECK.sentence("A new object");
        MoveOrder x = new MoveOrder(2, 2);
        for (int what = 0; what <= 4; what++) {
            CHECK.due("count(" + what + ")", 0, x.count(what));
        }
        for (int bay = 0; bay < 2; bay++) {
            int here = bay;
            CHECK.due("loads (0 at first)", 0, x.count(10 + bay));
            CHECK.due("no plan", -1, x.count(20 + bay));
            CHECK.due("dual without a plan", -1, x.dual(bay));
            CHECK.due("least", 0, x.least(bay));
            CHECK.badState("work without a plan", x, () -> x.work(here));
            CHECK.noIndex("move without a plan", x, () -> x.move(here, 0, 0));
        }
        CHECK.noIndex("look without boxes", x, () -> x.look(0, 0));
        CHECK.illegal("swap without boxes", x, () -> x.swap(0, 0));
        CHECK.refused("before without boxes", x, () -> x.before(0, 1) ? 1 : 0);
    }

    private static void objectsAreTheirOwn() {
        CHECK.sentence("A new object, beside others");
        MoveOrder x = new MoveOrder(1, 2);
        MoveOrder y = new MoveOrder(1, 2);
        x.box(0, 0, 0);
        x.loads(0, 3);
        x.plan(0);
        x.work(0);
        CHECK.same("the other one", Check.state(new MoveOrder(1, 2)), Check.state(y));
    }

    public static void main(String[] args) {
        manyBays();
        fewerBays();
        moreBays();
        manyTiers();
        fewerTiers();
        moreTiers();
        bothHeld();
        empty();
        objectsAreTheirOwn();
        CHECK.end();
    }
}
