/** Promise 6: the next move of a plan is done. */
public final class WorkTest {
    private static final Check CHECK = new Check();

    private static void wrong() {
        MoveOrder x = new MoveOrder(2, 2);
        int[] bays = {-1, 2, Integer.MIN_VALUE, Integer.MAX_VALUE};
        for (int bay : bays) {
            CHECK.illegal("work(" + bay + ")", () -> x.work(bay));
        }
        CHECK.badState("no plan", () -> x.work(0));
        x.plan(0);
        CHECK.badState("plan without moves", () -> x.work(0));
        x.box(0, 0, 0);
        CHECK.badState("plan void", () -> x.work(0));
        CHECK.due("moves worked", 0, x.count(3));
    }

    private static void moves() {
        MoveOrder x = new MoveOrder(2, 3);
        x.box(0, 0, 1);
        x.box(0, 1, 0);
        x.box(0, 1, 4);
        x.box(1, 2, 0);
        x.plan(0);
        x.plan(1);
        CHECK.due("left", 1, x.work(0));
        CHECK.due("stack", 0, x.look(2, 2));
        CHECK.due("tier", 1, x.look(2, 3));
        CHECK.due("left of it", 1, x.count(20));
        CHECK.due("left of the other", 1, x.count(21));
        CHECK.due("left", 0, x.work(0));
        CHECK.due("out", 3, x.look(1, 2));
        CHECK.due("out has no tier", -1, x.look(1, 3));
        CHECK.due("out keeps its bay", 0, x.look(1, 1));
        CHECK.badState("none left", () -> x.work(0));
        CHECK.due("worked", 2, x.count(3));
        CHECK.due("left", 0, x.work(1));
        CHECK.due("worked in all bays", 3, x.count(3));
        CHECK.due("out in all bays", 2, x.count(1));
    }

    private static void loadsGo() {
        MoveOrder x = new MoveOrder(2, 3);
        x.box(0, 0, 0);
        x.box(0, 0, 1);
        x.box(0, 1, 0);
        x.loads(0, 1);
        x.loads(1, 5);
        CHECK.planDue("plan", "1:0>2 0:0>3 2:1>3", x, 0);
        x.work(0);
        CHECK.due("no load goes with a move to a stack", 1, x.count(10));
        x.work(0);
        CHECK.due("a load went", 0, x.count(10));
        CHECK.due("loads gone", 1, x.count(4));
        CHECK.due("out without a load", 0, x.work(0));
        CHECK.due("loads gone", 1, x.count(4));
        CHECK.due("loads of the bay", 0, x.count(10));
        CHECK.due("loads of the other bay", 5, x.count(11));
    }

    public static void main(String[] args) {
        wrong();
        moves();
        loadsGo();
        CHECK.end();
    }
}
