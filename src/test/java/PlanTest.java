/** Promise 4: the plan of a bay, in cases counted by hand; PlanSearchTest goes through all bays. */
public final class PlanTest {
    private static final Check CHECK = new Check();

    private static MoveOrder ship(int tiers, int... stacksAndPorts) {
        MoveOrder x = new MoveOrder(2, tiers);
        for (int i = 0; i + 1 < stacksAndPorts.length; i += 2) {
            x.box(0, stacksAndPorts[i], stacksAndPorts[i + 1]);
        }
        return x;
    }

    private static void byHand() {
        CHECK.planDue("empty bay", "", ship(1), 0);
        CHECK.planDue("none leaves", "", ship(2, 0, 1, 0, 2), 0);
        CHECK.planDue("one leaves", "0:2>3", ship(2, 2, 0), 0);
        CHECK.planDue("less from first", "2:0>3 1:1>3 0:2>3", ship(1, 2, 0, 1, 0, 0, 0), 0);
        CHECK.planDue("one above", "1:1>0 0:1>3", ship(2, 1, 0, 1, 5), 0);
        CHECK.planDue("no room in 0", "3:1>2 2:1>3", ship(2, 0, 1, 0, 1, 1, 0, 1, 1), 0);
        CHECK.planDue("not on one that leaves", "3:0>2 2:0>3 1:1>3",
            ship(4, 0, 1, 1, 0, 0, 0, 0, 1), 0);
        CHECK.planDue("first out, then a stack is free", "0:0>3 2:1>0 1:1>3", ship(3, 0, 0, 1, 0, 1, 1), 0);
    }

    private static void needs() {
        MoveOrder x = ship(2, 0, 0, 1, 0);
        x.before(1, 0);
        CHECK.planDue("need over less from", "1:1>3 0:0>3", x, 0);
        MoveOrder y = ship(4, 0, 0, 0, 0, 0, 0, 0, 0);
        y.before(0, 3);
        y.before(3, 2);
        y.before(2, 1);
        CHECK.planDue("eight moves", "3:0>1 2:0>1 1:0>2 0:0>3 2:1>0 3:1>3 2:0>3 1:2>3", y, 0);
    }

    private static void again() {
        MoveOrder x = ship(2, 1, 0, 1, 5);
        CHECK.due("plan", 2, x.plan(0));
        x.work(0);
        CHECK.due("worked", 1, x.move(0, 0, 3));
        CHECK.planDue("plan by the boxes as they lie now", "0:1>3", x, 0);
        CHECK.due("not worked", 0, x.move(0, 0, 3));
        x.work(0);
        CHECK.planDue("nothing to do", "", x, 0);
        CHECK.due("plan of the other bay is its own", -1, x.count(21));
    }

    private static void wrong() {
        MoveOrder x = ship(2, 1, 0);
        int[] bays = {-1, 2, 4, Integer.MIN_VALUE, Integer.MAX_VALUE};
        for (int bay : bays) {
            CHECK.illegal("plan(" + bay + ")", () -> x.plan(bay));
        }
    }

    public static void main(String[] args) {
        byHand();
        needs();
        again();
        wrong();
        CHECK.end();
    }
}
