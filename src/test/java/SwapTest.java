/** Promise 10: boxes swapped. */
public final class SwapTest {
    private static final Check CHECK = new Check();

    /**
     * Bay 0: box 0 (leaves) below 1 (port 2) on stack 0. Bay 1: box 2 (port 2) on stack 1, box 3 (leaves) below
     * 4 (port 2) on stack 2. Bay 2 is empty. All are planned.
     */
    private static MoveOrder ship() {
        MoveOrder x = new MoveOrder(3, 3);
        x.box(0, 0, 0);
        x.box(0, 0, 2);
        x.box(1, 1, 2);
        x.box(1, 2, 0);
        x.box(1, 2, 2);
        for (int bay = 0; bay < 3; bay++) {
            x.plan(bay);
        }
        return x;
    }

    private static void refused(String call, MoveOrder x, int box, int other) {
        CHECK.refused(call, x, () -> x.swap(box, other));
        CHECK.refused(call + ", the other way", x, () -> x.swap(other, box));
    }

    private static void otherBay() {
        CHECK.sentence("SWAPPED, in stacks of bays: each lies where the other one lay");
        MoveOrder x = ship();
        CHECK.due("swap", 1, x.swap(1, 4));
        CHECK.same("place of 1", "2 1 2 1", Check.place(x, 1));
        CHECK.same("place of 4", "2 0 0 1", Check.place(x, 4));
        CHECK.planDue("plan of bay 0", "4:0>1 0:0>3", x, 0);
        CHECK.planDue("plan of bay 1", "1:2>0 3:2>3", x, 1);
        CHECK.due("swapped back", 1, x.swap(1, 4));
        CHECK.same("place of 1", "2 0 0 1", Check.place(x, 1));
        CHECK.same("place of 4", "2 1 2 1", Check.place(x, 4));
    }

    private static void oneBay() {
        CHECK.sentence("SWAPPED, in stacks of one bay: each lies where the other one lay");
        MoveOrder x = ship();
        CHECK.due("swap", 1, x.swap(2, 4));
        CHECK.same("place of 2", "2 1 2 1", Check.place(x, 2));
        CHECK.same("place of 4", "2 1 1 0", Check.place(x, 4));
    }

    private static void oneStack() {
        CHECK.sentence("SWAPPED, in one stack: each lies where the other one lay");
        MoveOrder x = new MoveOrder(1, 3);
        x.box(0, 1, 5);
        x.box(0, 1, 0);
        x.box(0, 1, 5);
        CHECK.due("swap", 1, x.swap(0, 2));
        CHECK.same("place of 0", "5 0 1 2", Check.place(x, 0));
        CHECK.same("place of 2", "5 0 1 0", Check.place(x, 2));
        CHECK.planDue("plan", "0:1>0 1:1>3", x, 0);
    }

    private static void leavingOnes() {
        CHECK.sentence("SWAPPED: two boxes that leave HERE");
        MoveOrder x = ship();
        CHECK.due("swap", 1, x.swap(3, 0));
        CHECK.same("place of 0", "0 1 2 0", Check.place(x, 0));
        CHECK.same("place of 3", "0 0 0 0", Check.place(x, 3));
        CHECK.planDue("plan of bay 0", "1:0>1 3:0>3", x, 0);
    }

    private static void fullBays() {
        CHECK.sentence("SWAPPED, where bays and stacks are full");
        MoveOrder x = new MoveOrder(2, 2);
        int[] stacks = {0, 0, 1, 1};
        for (int i = 0; i < 8; i++) {
            x.box(i / 4, stacks[i % 4], 1);
        }
        CHECK.due("swap", 1, x.swap(0, 7));
        CHECK.same("place of 0", "1 1 1 1", Check.place(x, 0));
        CHECK.same("place of 7", "1 0 0 0", Check.place(x, 7));
        CHECK.badState("the bay is full still", x, () -> x.box(0, 2, 1));
    }

    private static void noSuchBox() {
        CHECK.sentence("IllegalArgumentException if there is no such box");
        MoveOrder x = ship();
        int[] given = {-1, 5, 15, 16, 32, Integer.MIN_VALUE, Integer.MAX_VALUE};
        for (int box : given) {
            CHECK.illegal("swap(" + box + ", 0)", x, () -> x.swap(box, 0));
            CHECK.illegal("swap(0, " + box + ")", x, () -> x.swap(0, box));
            CHECK.illegal("they are one, and none: " + box, x, () -> x.swap(box, box));
        }
    }

    private static void theyAreOne() {
        CHECK.sentence("0 if they are one");
        MoveOrder x = ship();
        for (int box = 0; box < 5; box++) {
            refused("swap(" + box + ", " + box + ")", x, box, box);
        }
    }

    private static void otherPorts() {
        CHECK.sentence("0 if they have other ports");
        MoveOrder x = new MoveOrder(2, 3);
        for (int port = 0; port < 6; port++) {
            x.box(port / 3, port % 3, port);
        }
        x.plan(0);
        x.plan(1);
        for (int box = 0; box < 6; box++) {
            for (int other = 0; other < box; other++) {
                refused("ports " + box + " and " + other, x, box, other);
            }
        }
    }

    private static void oneIsOut() {
        CHECK.sentence("0 if one is OUT");
        MoveOrder x = ship();
        x.work(0);
        CHECK.due("left", 0, x.work(0));
        CHECK.due("box 0 is out", 3, x.look(0, 2));
        refused("box 0 with one that lies", x, 0, 3);
        x.work(1);
        x.work(1);
        refused("both out", x, 0, 3);
    }

    private static void oneHasNeeds() {
        CHECK.sentence("0 if one has needs");
        MoveOrder x = new MoveOrder(2, 3);
        x.box(0, 0, 0);
        x.box(0, 1, 0);
        x.box(0, 2, 0);
        x.box(1, 0, 0);
        x.before(1, 0);
        x.plan(0);
        x.plan(1);
        refused("one is to go out behind another", x, 0, 3);
        refused("one is to go out before another", x, 1, 3);
        refused("both are of one need", x, 0, 1);
        refused("in one bay", x, 0, 2);
        CHECK.due("none of both has needs", 1, x.swap(2, 3));
    }

    private static void bothHaveNeeds() {
        CHECK.sentence("0 if both have needs");
        MoveOrder x = new MoveOrder(2, 3);
        for (int i = 0; i < 4; i++) {
            x.box(i / 2, i % 2, 0);
        }
        x.before(0, 1);
        x.before(3, 2);
        x.plan(0);
        for (int box = 0; box < 2; box++) {
            refused("swap(" + box + ", 2)", x, box, 2);
            refused("swap(" + box + ", 3)", x, box, 3);
        }
    }

    private static void needBehindWork() {
        CHECK.sentence("has needs: one told stays told when its other box is OUT");
        MoveOrder x = new MoveOrder(2, 3);
        x.box(0, 0, 0);
        x.box(0, 1, 0);
        x.box(1, 0, 0);
        x.before(1, 0);
        x.plan(0);
        x.work(0);
        CHECK.due("box 1 is out", 3, x.look(1, 2));
        refused("box 0", x, 0, 2);
    }

    private static void plansAreVoid() {
        CHECK.sentence("void when a box of it is swapped");
        MoveOrder x = ship();
        x.swap(1, 4);
        CHECK.same("the one's bay", "none", Check.planned(x, 0));
        CHECK.same("the other's bay", "none", Check.planned(x, 1));
        CHECK.same("a bay without them", "", Check.planned(x, 2));
        MoveOrder y = ship();
        y.swap(2, 4);
        CHECK.same("both in bay 1", "none", Check.planned(y, 1));
        CHECK.same("a bay without them", "1:0>1 0:0>3", Check.planned(y, 0));
    }

    private static void refusedChangesNothing() {
        CHECK.sentence("What throws or is refused changes nothing");
        MoveOrder x = ship();
        x.work(0);
        refused("other ports", x, 0, 4);
        refused("one", x, 4, 4);
        CHECK.illegal("no such box", x, () -> x.swap(4, 5));
        CHECK.same("plan", "1:0>1* 0:0>3", Check.planned(x, 0));
        CHECK.due("it is worked on", 0, x.work(0));
    }

    public static void main(String[] args) {
        otherBay();
        oneBay();
        oneStack();
        leavingOnes();
        fullBays();
        noSuchBox();
        theyAreOne();
        otherPorts();
        oneIsOut();
        oneHasNeeds();
        bothHaveNeeds();
        needBehindWork();
        plansAreVoid();
        refusedChangesNothing();
        CHECK.end();
    }
}
