/** Promise 4: the plan of a bay, in cases counted by hand; PlanSearchTest goes through all bays. */
public final class PlanTest {
    private static final Check CHECK = new Check();

    /** Two bays; boxes of bay 0, each told by its stack and port. */
    private static MoveOrder ship(int tiers, int... stacksAndPorts) {
        MoveOrder x = new MoveOrder(2, tiers);
        for (int i = 0; i + 1 < stacksAndPorts.length; i += 2) {
            x.box(0, stacksAndPorts[i], stacksAndPorts[i + 1]);
        }
        return x;
    }

    private static void howMany() {
        CHECK.sentence("THE PLAN of a bay: how many moves");
        CHECK.planDue("one leaves", "0:2>3", ship(2, 2, 0), 0);
        CHECK.planDue("one above", "1:1>0 0:1>3", ship(2, 1, 0, 1, 5), 0);
        CHECK.planDue("three above", "3:0>1 2:0>1 1:0>1 0:0>3", ship(4, 0, 0, 0, 1, 0, 1, 0, 1), 0);
        CHECK.planDue("four leave", "3:0>3 2:0>3 1:0>3 0:0>3", ship(4, 0, 0, 0, 0, 0, 0, 0, 0), 0);
    }

    private static void nothingToDo() {
        CHECK.sentence("THE PLAN of a bay where all boxes that leave HERE are OUT");
        CHECK.planDue("empty bay", "", ship(1), 0);
        CHECK.planDue("none leaves", "", ship(4, 0, 1, 0, 5, 1, 2, 0, 3), 0);
        MoveOrder x = ship(2, 0, 0);
        x.plan(0);
        x.work(0);
        CHECK.planDue("all out", "", x, 0);
        CHECK.due("a plan without moves is a plan", 0, x.count(20));
    }

    private static void noSuchBay() {
        CHECK.sentence("IllegalArgumentException if there is no such bay");
        int[] given = {-1, Integer.MIN_VALUE, Integer.MAX_VALUE};
        for (int bays = 1; bays <= 4; bays++) {
            int after = bays;
            MoveOrder x = new MoveOrder(bays, 3);
            x.box(0, 0, 0);
            x.plan(0);
            CHECK.illegal("plan(" + after + ") of " + bays, x, () -> x.plan(after));
            for (int bay : given) {
                CHECK.illegal("plan(" + bay + ") of " + bays, x, () -> x.plan(bay));
            }
            CHECK.due("the last bay", bays == 1 ? 1 : 0, x.plan(bays - 1));
        }
    }

    private static void stackThatHasRoom() {
        CHECK.sentence("the top box of a stack goes to another stack that has room");
        CHECK.planDue("stack 0 has room for one", "3:1>0 2:1>3", ship(3, 0, 1, 0, 1, 1, 0, 1, 1), 0);
        CHECK.planDue("stack 0 is full", "3:1>2 2:1>3", ship(2, 0, 1, 0, 1, 1, 0, 1, 1), 0);
        CHECK.planDue("not to its own stack", "1:0>1 0:0>3", ship(4, 0, 0, 0, 1), 0);
        CHECK.planDue("one tier", "0:0>3 2:2>3", ship(1, 0, 0, 1, 3, 2, 0), 0);
    }

    private static void outIfItLeavesHere() {
        CHECK.sentence("OUT (3) if it leaves HERE");
        for (int port = 1; port <= 5; port++) {
            CHECK.planDue("above is one of port " + port, "1:2>0 0:2>3", ship(2, 2, 0, 2, port), 0);
        }
        CHECK.planDue("below is one that stays", "1:2>3", ship(2, 2, 1, 2, 0), 0);
    }

    private static void outBehindNeeds() {
        CHECK.sentence("OUT (3) if all that are to go out before it are out");
        MoveOrder x = ship(2, 0, 0, 1, 0);
        x.before(1, 0);
        CHECK.planDue("the less from waits", "1:1>3 0:0>3", x, 0);
        MoveOrder y = ship(2, 0, 0, 0, 0, 1, 0, 1, 0);
        y.before(0, 1);
        y.before(1, 2);
        y.before(2, 3);
        CHECK.planDue("0 1 2 3", "1:0>2 0:0>3 3:1>0 1:2>3 2:1>3 3:0>3", y, 0);
        MoveOrder z = ship(2, 0, 0, 1, 0, 2, 0);
        z.before(1, 0);
        z.before(2, 0);
        CHECK.planDue("both ahead", "1:1>3 2:2>3 0:0>3", z, 0);
    }

    private static void needsThatAreOut() {
        CHECK.sentence("all that are to go out before it are out, by an earlier plan");
        MoveOrder x = ship(2, 0, 0, 1, 0);
        x.before(1, 0);
        x.plan(0);
        x.work(0);
        CHECK.planDue("box 1 is out", "0:0>3", x, 0);
    }

    private static void mostMoves() {
        CHECK.sentence("the fewest MOVES, the most that a bay can need");
        MoveOrder x = ship(4, 0, 0, 0, 0, 0, 0, 0, 0);
        x.before(0, 3);
        x.before(3, 2);
        x.before(2, 1);
        CHECK.planDue("0 3 2 1", "3:0>1 2:0>1 1:0>2 0:0>3 2:1>0 3:1>3 2:0>3 1:2>3", x, 0);
    }

    private static void fewestAheadOfFirst() {
        CHECK.sentence("the fewest MOVES; of such the first");
        CHECK.planDue("to 1 would lie above one that leaves", "3:0>2 2:0>3 1:1>3",
            ship(4, 0, 1, 1, 0, 0, 0, 0, 1), 0);
        CHECK.planDue("from 0 would take one move more", "1:1>3 2:2>3", ship(4, 0, 1, 1, 0, 2, 0), 0);
    }

    private static void lessFrom() {
        CHECK.sentence("the less from ahead");
        CHECK.planDue("not by numbers", "2:0>3 1:1>3 0:2>3", ship(1, 2, 0, 1, 0, 0, 0), 0);
        CHECK.planDue("ahead of the less to", "0:0>3 2:1>0 1:1>3", ship(3, 0, 0, 1, 0, 1, 1), 0);
    }

    private static void lessTo() {
        CHECK.sentence("then the less to");
        CHECK.planDue("from 0", "1:0>1 0:0>3", ship(2, 0, 0, 0, 1), 0);
        CHECK.planDue("from 1", "1:1>0 0:1>3", ship(2, 1, 0, 1, 1), 0);
        CHECK.planDue("from 2", "1:2>0 0:2>3", ship(2, 2, 0, 2, 1), 0);
    }

    private static void asTheyLie() {
        CHECK.sentence("It is made by the boxes as they lie");
        MoveOrder x = ship(2, 1, 0, 1, 5);
        CHECK.due("plan", 2, x.plan(0));
        x.work(0);
        CHECK.same("one worked", "1:1>0* 0:1>3", Check.planned(x, 0));
        CHECK.planDue("planned again", "0:1>3", x, 0);
        CHECK.planDue("and again, nothing worked", "0:1>3", x, 0);
        CHECK.due("moves worked so far", 1, x.count(3));
    }

    private static void ofItsBay() {
        CHECK.sentence("THE PLAN of a bay, not of another");
        MoveOrder x = ship(2, 0, 0);
        x.box(1, 1, 0);
        x.plan(0);
        CHECK.same("bay 1 has none", "none", Check.planned(x, 1));
        CHECK.planDue("plan of bay 1", "1:1>3", x, 1);
        CHECK.same("plan of bay 0 stands", "0:0>3", Check.planned(x, 0));
    }

    private static void loadsChangeNothing() {
        CHECK.sentence("loads change nothing of it");
        MoveOrder x = ship(2, 0, 0, 0, 1, 1, 0);
        x.plan(0);
        x.work(0);
        x.loads(0, 100);
        CHECK.same("plan", "1:0>2* 0:0>3 2:1>3", Check.planned(x, 0));
        CHECK.planDue("planned with loads", "0:0>3 2:1>3", x, 0);
    }

    public static void main(String[] args) {
        howMany();
        nothingToDo();
        noSuchBay();
        stackThatHasRoom();
        outIfItLeavesHere();
        outBehindNeeds();
        needsThatAreOut();
        mostMoves();
        fewestAheadOfFirst();
        lessFrom();
        lessTo();
        asTheyLie();
        ofItsBay();
        loadsChangeNothing();
        CHECK.end();
    }
}
