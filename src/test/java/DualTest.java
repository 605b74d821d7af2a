/** Promise 9: dual cycles. */
public final class DualTest {
    public static void main(String[] args) {
        Check check = new Check();
        MoveOrder x = new MoveOrder(2, 3);
        int[] bays = {-1, 2, Integer.MIN_VALUE, Integer.MAX_VALUE};
        for (int bay : bays) {
            check.illegal("dual(" + bay + ")", () -> x.dual(bay));
        }
        x.loads(0, 2);
        check.due("no plan", -1, x.dual(0));
        x.plan(0);
        check.due("plan without moves", 0, x.dual(0));
        x.box(0, 0, 0);
        x.box(0, 0, 1);
        x.box(0, 1, 0);
        x.box(0, 2, 0);
        check.due("plan void", -1, x.dual(0));
        check.due("plan", 4, x.plan(0));
        check.due("three out, two loads", 2, x.dual(0));
        x.loads(0, 5);
        check.due("three out, seven loads", 3, x.dual(0));
        check.planDue("order", "2:1>3 1:0>1 0:0>3 3:2>3", x, 0);
        x.work(0);
        check.due("two left", 2, x.dual(0));
        x.work(0);
        check.due("a move to a stack is none", 2, x.dual(0));
        x.work(0);
        x.work(0);
        check.due("all worked", 0, x.dual(0));
        check.due("loads of another bay are not taken", -1, x.dual(1));

        MoveOrder y = new MoveOrder(1, 1);
        y.box(0, 0, 0);
        y.box(0, 1, 0);
        y.plan(0);
        check.due("no loads", 0, y.dual(0));
        y.loads(0, 1);
        check.due("one load", 1, y.dual(0));
        y.work(0);
        check.due("the load went", 0, y.dual(0));
        y.loads(0, 1);
        check.due("a load for the second", 1, y.dual(0));
        check.end();
    }
}
