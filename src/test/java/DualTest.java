/** Promise 9: dual cycles. */
public final class DualTest {
    private static final Check CHECK = new Check();

    /** Bay 0 with the plan 2:1>3 1:0>1 0:0>3 3:2>3, bay 1 empty and without a plan. */
    private static MoveOrder ship() {
        MoveOrder x = new MoveOrder(2, 3);
        x.box(0, 0, 0);
        x.box(0, 0, 1);
        x.box(0, 1, 0);
        x.box(0, 2, 0);
        CHECK.planDue("plan", "2:1>3 1:0>1 0:0>3 3:2>3", x, 0);
        return x;
    }

    private static void noSuchBay() {
        CHECK.sentence("IllegalArgumentException if there is no such bay");
        MoveOrder x = ship();
        int[] given = {-1, 2, 3, Integer.MIN_VALUE, Integer.MAX_VALUE};
        for (int bay : given) {
            CHECK.illegal("dual(" + bay + ")", x, () -> x.dual(bay));
        }
    }

    private static void withoutAPlan() {
        CHECK.sentence("NONE without a plan");
        MoveOrder x = ship();
        x.loads(1, 5);
        CHECK.due("never planned", -1, x.dual(1));
        x.loads(0, 5);
        x.before(2, 3);
        CHECK.due("void by a need", -1, x.dual(0));
        x.plan(0);
        x.work(0);
        x.box(0, 1, 1);
        CHECK.due("void by a box", -1, x.dual(0));
        x.plan(0);
        x.swap(1, 4);
        CHECK.due("void by a swap", -1, x.dual(0));
    }

    private static void withoutMoves() {
        CHECK.sentence("DUAL cycles of a plan without moves");
        MoveOrder x = ship();
        x.plan(1);
        CHECK.due("no loads", 0, x.dual(1));
        x.loads(1, 5);
        CHECK.due("five loads", 0, x.dual(1));
    }

    private static void asLongAsThereAreLoads() {
        CHECK.sentence("its i-th move OUT is joined with a load, as long as there are loads: how many such");
        MoveOrder x = ship();
        int[] joined = {0, 1, 2, 3, 3, 3};
        for (int loads = 0; loads < joined.length; loads++) {
            CHECK.due("three out, loads " + loads, joined[loads], x.dual(0));
            x.loads(0, 1);
        }
        x.loads(0, 94);
        CHECK.due("three out, 100 loads", 3, x.dual(0));
    }

    private static void notWorked() {
        CHECK.sentence("of moves that are not worked");
        MoveOrder x = ship();
        x.loads(0, 50);
        int[] joined = {3, 2, 2, 1, 0};
        for (int worked = 0; worked < joined.length; worked++) {
            CHECK.due("worked " + worked, joined[worked], x.dual(0));
            if (worked < 4) {
                x.work(0);
            }
        }
    }

    private static void loadsThatWent() {
        CHECK.sentence("joined with a load, not with one that went");
        MoveOrder x = ship();
        x.loads(0, 2);
        x.work(0);
        CHECK.due("one load, two out", 1, x.dual(0));
        x.work(0);
        CHECK.due("a move to a stack takes none", 1, x.dual(0));
        x.work(0);
        CHECK.due("no load, one out", 0, x.dual(0));
        x.loads(0, 1);
        CHECK.due("a load came", 1, x.dual(0));
    }

    private static void ofItsBay() {
        CHECK.sentence("LOADS wait for bays: those of another bay are not joined");
        MoveOrder x = ship();
        x.loads(1, 100);
        CHECK.due("loads of bay 1", 0, x.dual(0));
    }

    public static void main(String[] args) {
        noSuchBay();
        withoutAPlan();
        withoutMoves();
        asLongAsThereAreLoads();
        notWorked();
        loadsThatWent();
        ofItsBay();
        CHECK.end();
    }
}
