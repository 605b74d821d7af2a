/** Promise 5: a move of a plan. */
public final class MoveTest {
    public static void main(String[] args) {
        Check check = new Check();
        MoveOrder x = new MoveOrder(2, 2);
        x.box(1, 0, 3);
        x.box(0, 1, 0);
        x.box(0, 1, 2);
        check.noIndex("no plan", () -> x.move(0, 0, 0));
        check.noIndex("no plan of an empty bay", () -> x.move(1, 0, 0));
        x.plan(0);
        int[][] want = {{2, 1, 0, 0}, {1, 1, 3, 0}};
        for (int i = 0; i < 2; i++) {
            for (int what = 0; what < 4; what++) {
                check.due("move(0, " + i + ", " + what + ")", want[i][what], x.move(0, i, what));
            }
        }
        int[] wrong = {-1, 4, 12, Integer.MIN_VALUE, Integer.MAX_VALUE};
        for (int w : wrong) {
            check.noIndex("bay " + w, () -> x.move(w, 0, 0));
            check.noIndex("move " + w, () -> x.move(0, w, 0));
            check.noIndex("what " + w, () -> x.move(0, 0, w));
        }
        check.noIndex("bay 2", () -> x.move(2, 0, 0));
        check.noIndex("move 2", () -> x.move(0, 2, 0));
        x.work(0);
        check.due("first worked", 1, x.move(0, 0, 3));
        check.due("second not worked", 0, x.move(0, 1, 3));
        check.due("first is told still", 2, x.move(0, 0, 0));
        x.work(0);
        check.due("second worked", 1, x.move(0, 1, 3));
        x.plan(1);
        check.noIndex("plan without moves", () -> x.move(1, 0, 0));
        x.box(0, 0, 1);
        check.noIndex("plan void", () -> x.move(0, 0, 0));
        check.end();
    }
}
