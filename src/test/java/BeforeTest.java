/** Promise 3: needs among boxes. */
public final class BeforeTest {
    private static final Check CHECK = new Check();

    /** Boxes 0 .. 3 of bay 0 leave here from stacks 0, 1, 2, 0; 4 and 5 of bay 1 leave here, 6 later. */
    private static MoveOrder ship() {
        MoveOrder x = new MoveOrder(2, 4);
        for (int i = 0; i < 4; i++) {
            x.box(0, i % 3, 0);
        }
        x.box(1, 0, 0);
        x.box(1, 1, 0);
        x.box(1, 2, 1);
        x.plan(0);
        x.plan(1);
        return x;
    }

    private static void refused(String call, MoveOrder x, int box, int other) {
        CHECK.refused(call, x, () -> x.before(box, other) ? 1 : 0);
    }

    private static void need() {
        CHECK.sentence("A NEED: true");
        MoveOrder x = ship();
        CHECK.isTrue("before(4, 5)", x.before(4, 5));
        CHECK.planDue("4 first, as without a need", "4:0>3 5:1>3", x, 1);
        MoveOrder y = ship();
        CHECK.isTrue("before(5, 4)", y.before(5, 4));
        CHECK.planDue("5 first, by the need", "5:1>3 4:0>3", y, 1);
    }

    private static void noneSuch() {
        CHECK.sentence("false if there are none such");
        MoveOrder x = ship();
        int[] none = {-1, 7, 15, 16, 32, Integer.MIN_VALUE, Integer.MAX_VALUE};
        for (int box : none) {
            refused("before(" + box + ", 1)", x, box, 1);
            refused("before(1, " + box + ")", x, 1, box);
            refused("before(" + box + ", " + box + ")", x, box, box);
        }
        refused("both none", x, -1, 7);
    }

    private static void notOneBay() {
        CHECK.sentence("false if they are not of one bay");
        MoveOrder x = ship();
        refused("before(0, 4)", x, 0, 4);
        refused("before(4, 0)", x, 4, 0);
        CHECK.due("none of both has needs", 1, x.swap(0, 4));
    }

    private static void bayOfToday() {
        CHECK.sentence("not of one bay, by where they lie after a swap");
        MoveOrder x = ship();
        x.swap(0, 4);
        refused("before(0, 1)", x, 0, 1);
        CHECK.isTrue("before(4, 1)", x.before(4, 1));
        CHECK.isTrue("before(0, 5)", x.before(0, 5));
    }

    private static void oneIsOut() {
        CHECK.sentence("false if one is OUT");
        MoveOrder x = ship();
        x.work(1);
        CHECK.due("box 4 is out", 3, x.look(4, 2));
        refused("before(4, 5)", x, 4, 5);
        refused("before(5, 4)", x, 5, 4);
        x.work(1);
        refused("both out", x, 4, 5);
        MoveOrder y = ship();
        y.work(1);
        y.before(4, 5);
        CHECK.due("none was told: 5 has no needs", 1, y.swap(5, 0));
    }

    private static void leavesLater() {
        CHECK.sentence("false if one does not leave HERE");
        MoveOrder x = ship();
        refused("before(6, 4)", x, 6, 4);
        refused("before(4, 6)", x, 4, 6);
        for (int port = 1; port <= 5; port++) {
            MoveOrder y = new MoveOrder(1, 4);
            y.box(0, 0, 0);
            y.box(0, 1, port);
            y.box(0, 2, port);
            refused("0 leaves, 1 at port " + port, y, 0, 1);
            refused("1 at port " + port + ", 0 leaves", y, 1, 0);
            refused("both at port " + port, y, 1, 2);
        }
        CHECK.due("none was told: 4 has no needs", 1, x.swap(4, 0));
    }

    private static void told() {
        CHECK.sentence("false if it is told");
        MoveOrder x = ship();
        x.before(0, 1);
        x.plan(0);
        refused("told", x, 0, 1);
        x.before(1, 2);
        x.plan(0);
        refused("told, with one behind it", x, 0, 1);
        CHECK.isTrue("what follows from two needs is not told itself", x.before(0, 2));
        refused("now it is", x, 0, 2);
    }

    private static void ringOfTwo() {
        CHECK.sentence("false if a ring would come of it");
        MoveOrder x = ship();
        x.before(0, 1);
        x.plan(0);
        refused("before(1, 0)", x, 1, 0);
        CHECK.planDue("0 ahead of 1 still", "3:0>3 0:0>3 1:1>3 2:2>3", x, 0);
    }

    private static void longRings() {
        CHECK.sentence("false if a ring would come of it, of three and four");
        int[][] orders = {{0, 1, 2, 3}, {3, 2, 1, 0}, {2, 0, 3, 1}, {1, 3, 0, 2}};
        for (int[] o : orders) {
            for (int first = 0; first < 3; first++) {
                MoveOrder x = ship();
                for (int i = 0; i < 3; i++) {
                    int at = (first + i) % 3;
                    CHECK.isTrue("chain", x.before(o[at], o[at + 1]));
                }
                x.plan(0);
                refused("ring of four", x, o[3], o[0]);
                refused("ring of three", x, o[2], o[0]);
                refused("ring of three at the end", x, o[3], o[1]);
                CHECK.isTrue("no ring, ahead in the chain", x.before(o[0], o[3]));
            }
        }
    }

    private static void noRing() {
        CHECK.sentence("a ring would come of it, not: needs that part and meet");
        MoveOrder x = ship();
        CHECK.isTrue("0 1", x.before(0, 1));
        CHECK.isTrue("0 2", x.before(0, 2));
        CHECK.isTrue("1 3", x.before(1, 3));
        CHECK.isTrue("2 3", x.before(2, 3));
        CHECK.isTrue("1 2", x.before(1, 2));
        CHECK.isTrue("0 3", x.before(0, 3));
        CHECK.planDue("0 1 2 3", "3:0>1 0:0>3 3:1>0 1:1>3 2:2>3 3:0>3", x, 0);
    }

    private static void itself() {
        CHECK.sentence("false: one before itself, too");
        MoveOrder x = ship();
        for (int box = 0; box < 7; box++) {
            refused("before(" + box + ", " + box + ")", x, box, box);
        }
        CHECK.due("none was told: 0 has no needs", 1, x.swap(0, 4));
        x.before(0, 5);
        x.plan(1);
        refused("itself, with a need", x, 0, 0);
        refused("itself, with a need", x, 5, 5);
    }

    private static void planIsVoid() {
        CHECK.sentence("void when a need of that bay is told");
        MoveOrder x = ship();
        x.before(0, 1);
        CHECK.same("plan of that bay", "none", Check.planned(x, 0));
        CHECK.same("plan of the other bay", "4:0>3 5:1>3", Check.planned(x, 1));
    }

    private static void refusedChangesNothing() {
        CHECK.sentence("What is refused changes nothing");
        MoveOrder x = ship();
        x.before(4, 5);
        x.plan(1);
        x.work(1);
        refused("told, and out", x, 4, 5);
        refused("ring, and out", x, 5, 4);
        refused("itself", x, 5, 5);
        refused("later", x, 5, 6);
        CHECK.same("plan", "4:0>3* 5:1>3", Check.planned(x, 1));
        CHECK.due("it is worked on", 0, x.work(1));
    }

    public static void main(String[] args) {
        need();
        noneSuch();
        notOneBay();
        bayOfToday();
        oneIsOut();
        leavesLater();
        told();
        ringOfTwo();
        longRings();
        noRing();
        itself();
        planIsVoid();
        refusedChangesNothing();
        CHECK.end();
    }
}
