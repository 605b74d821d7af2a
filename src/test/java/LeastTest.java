/** Promise 7: the bound of a bay. */
public final class LeastTest {
    public static void main(String[] args) {
        Check check = new Check();
        MoveOrder x = new MoveOrder(2, 4);
        int[] bays = {-1, 2, Integer.MIN_VALUE, Integer.MAX_VALUE};
        for (int bay : bays) {
            check.illegal("least(" + bay + ")", () -> x.least(bay));
        }
        check.due("empty", 0, x.least(0));
        x.box(0, 0, 2);
        check.due("none leaves", 0, x.least(0));
        x.box(0, 0, 0);
        check.due("one leaves", 1, x.least(0));
        x.box(0, 0, 0);
        check.due("one that leaves above another", 2, x.least(0));
        x.box(0, 0, 5);
        check.due("one other above both counts once", 3, x.least(0));
        for (int i = 0; i < 3; i++) {
            x.box(1, 0, 1);
        }
        check.due("higher than one of another bay", 0, x.least(1));
        x.plan(0);
        check.due("plan meets it", 3, x.count(20));
        x.work(0);
        check.due("the other is moved", 2, x.least(0));
        x.work(0);
        check.due("those out do not count", 1, x.least(0));
        x.work(0);
        check.due("all out", 0, x.least(0));
        x.box(0, 2, 0);
        x.box(0, 1, 1);
        check.due("others in another stack", 1, x.least(0));

        MoveOrder y = new MoveOrder(1, 4);
        for (int i = 0; i < 4; i++) {
            y.box(0, 0, 0);
        }
        y.before(0, 3);
        y.before(3, 2);
        y.before(2, 1);
        check.due("needs do not count", 4, y.least(0));
        check.due("needs take more moves", 8, y.plan(0));
        check.end();
    }
}
