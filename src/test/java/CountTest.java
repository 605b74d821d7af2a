/** Promise 12: counts. */
public final class CountTest {
    public static void main(String[] args) {
        Check check = new Check();
        MoveOrder x = new MoveOrder(3, 2);
        int[] wrong = {-1, 5, 6, 9, 13, 14, 19, 23, 24, 30, Integer.MIN_VALUE, Integer.MIN_VALUE + 10,
            Integer.MAX_VALUE};
        for (int w : wrong) {
            check.due("count(" + w + ")", -1, x.count(w));
        }
        x.box(2, 0, 0);
        x.box(2, 0, 1);
        x.box(2, 1, 0);
        x.box(0, 1, 0);
        x.loads(2, 1);
        x.loads(0, 7);
        check.due("boxes", 4, x.count(0));
        check.due("out", 0, x.count(1));
        check.due("loads of bay 0", 7, x.count(10));
        check.due("loads of bay 1", 0, x.count(11));
        check.due("loads of bay 2", 1, x.count(12));
        check.due("no plan", -1, x.count(22));
        x.plan(2);
        check.due("plan", 3, x.count(22));
        check.due("no plan of bay 0", -1, x.count(20));
        int[] outs = {0, 1, 2};
        int[] gone = {0, 1, 1};
        check.planDue("order", "1:0>2 0:0>3 2:1>3", x, 2);
        for (int i = 0; i < 3; i++) {
            x.work(2);
            check.due("out behind " + i, outs[i], x.count(1));
            check.due("aside behind " + i, 0, x.count(2));
            check.due("worked behind " + i, i + 1, x.count(3));
            check.due("loads gone behind " + i, gone[i], x.count(4));
            check.due("left behind " + i, 2 - i, x.count(22));
        }
        x.plan(2);
        check.due("worked so far, in all plans", 3, x.count(3));
        check.due("boxes, those out too", 4, x.count(0));
        for (int w : wrong) {
            check.due("count(" + w + ")", -1, x.count(w));
        }
        check.end();
    }
}
