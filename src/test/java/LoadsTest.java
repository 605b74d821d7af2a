/** Promise 8: loads that wait. */
public final class LoadsTest {
    public static void main(String[] args) {
        Check check = new Check();
        MoveOrder x = new MoveOrder(2, 2);
        x.box(0, 0, 0);
        x.plan(0);
        int[] bays = {-1, 2, Integer.MIN_VALUE, Integer.MAX_VALUE};
        for (int bay : bays) {
            check.illegal("loads(" + bay + ", 1)", () -> x.loads(bay, 1));
        }
        int[] numbers = {0, -1, 101, Integer.MIN_VALUE, Integer.MAX_VALUE};
        for (int n : numbers) {
            check.illegal("loads(0, " + n + ")", () -> x.loads(0, n));
        }
        check.due("none yet", 0, x.count(10));
        check.due("one", 1, x.loads(0, 1));
        check.due("99 more", 100, x.loads(0, 99));
        check.badState("101", () -> x.loads(0, 1));
        check.badState("200", () -> x.loads(0, 100));
        check.illegal("wrong n told before too many", () -> x.loads(0, 101));
        check.due("100 still", 100, x.count(10));
        check.due("100 at once", 100, x.loads(1, 100));
        check.due("plan stands", 1, x.count(20));
        x.work(0);
        check.due("one went", 99, x.count(10));
        check.due("room for one", 100, x.loads(0, 1));
        check.end();
    }
}
