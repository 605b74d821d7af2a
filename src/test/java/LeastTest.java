/** Promise 7: the bound of a bay. */
public final class LeastTest {
    private static final Check CHECK = new Check();

    /** Two bays; boxes of bay 0, each told by its stack and port. */
    private static MoveOrder ship(int... stacksAndPorts) {
        MoveOrder x = new MoveOrder(2, 4);
        for (int i = 0; i + 1 < stacksAndPorts.length; i += 2) {
            x.box(0, stacksAndPorts[i], stacksAndPorts[i + 1]);
        }
        return x;
    }

    private static void noSuchBay() {
        CHECK.sentence("IllegalArgumentException if there is no such bay");
        int[] given = {-1, 2, 3, Integer.MIN_VALUE, Integer.MAX_VALUE};
        MoveOrder x = ship(0, 0);
        for (int bay : given) {
            CHECK.illegal("least(" + bay + ")", x, () -> x.least(bay));
        }
    }

    private static void empty() {
        CHECK.sentence("BOUND of a bay that is empty, or where none leaves");
        CHECK.due("empty", 0, ship().least(0));
        CHECK.due("none leaves", 0, ship(0, 1, 0, 2, 0, 5, 1, 3).least(0));
    }

    private static void oneForEach() {
        CHECK.sentence("one for each box that leaves HERE");
        CHECK.due("one", 1, ship(2, 0).least(0));
        CHECK.due("three beside", 3, ship(0, 0, 1, 0, 2, 0).least(0));
        CHECK.due("four in a stack: each counts once", 4, ship(0, 0, 0, 0, 0, 0, 0, 0).least(0));
    }

    private static void othersAbove() {
        CHECK.sentence("one for each other box that lies above such a one in its stack");
        CHECK.due("right above", 2, ship(1, 0, 1, 1).least(0));
        CHECK.due("above another one that lies above", 3, ship(1, 0, 1, 1, 1, 5).least(0));
        CHECK.due("above two that leave, counted once", 3, ship(1, 0, 1, 0, 1, 1).least(0));
        CHECK.due("between two that leave", 3, ship(1, 0, 1, 1, 1, 0).least(0));
        CHECK.due("in two stacks", 4, ship(1, 0, 1, 1, 2, 0, 2, 1).least(0));
    }

    private static void othersNotAbove() {
        CHECK.sentence("above such a one in its stack, and no others");
        CHECK.due("below", 1, ship(1, 1, 1, 0).least(0));
        CHECK.due("higher, in another stack", 1, ship(0, 0, 1, 1, 1, 1, 1, 1).least(0));
        MoveOrder x = ship(0, 1, 0, 1, 0, 1);
        x.box(1, 0, 0);
        CHECK.due("higher, in that stack of another bay", 0, x.least(0));
        CHECK.due("the other bay", 1, x.least(1));
    }

    private static void thoseOut() {
        CHECK.sentence("BOUND: moves at least: none for those OUT");
        MoveOrder x = ship(0, 2, 0, 0, 0, 0, 0, 5);
        x.plan(0);
        int[] bounds = {3, 2, 1, 0};
        for (int i = 0; i < 3; i++) {
            CHECK.due("worked " + i, bounds[i], x.least(0));
            x.work(0);
        }
        CHECK.due("all out", 0, x.least(0));
        x.box(0, 0, 4);
        CHECK.due("above where one that is out lay", 0, x.least(0));
    }

    private static void planOrNone() {
        CHECK.sentence("BOUND: needs and a plan are nothing to it");
        MoveOrder x = ship(0, 0, 0, 0, 0, 0, 0, 0);
        x.before(0, 3);
        x.before(3, 2);
        x.before(2, 1);
        CHECK.due("needs do not count", 4, x.least(0));
        CHECK.due("needs take more moves", 8, x.plan(0));
        CHECK.due("with a plan", 4, x.least(0));
    }

    public static void main(String[] args) {
        noSuchBay();
        empty();
        oneForEach();
        othersAbove();
        othersNotAbove();
        thoseOut();
        planOrNone();
        CHECK.end();
    }
}
