/** Promise 11: what is known of a box. */
public final class LookTest {
    public static void main(String[] args) {
        Check check = new Check();
        MoveOrder x = new MoveOrder(4, 4);
        check.noIndex("no box yet", () -> x.look(0, 0));
        x.box(3, 1, 5);
        x.box(3, 1, 0);
        int[][] want = {{5, 3, 1, 0}, {0, 3, 1, 1}};
        for (int box = 0; box < 2; box++) {
            for (int what = 0; what < 4; what++) {
                check.due("look(" + box + ", " + what + ")", want[box][what], x.look(box, what));
            }
        }
        int[] wrong = {-1, 4, 16, Integer.MIN_VALUE, Integer.MAX_VALUE};
        for (int w : wrong) {
            check.noIndex("box " + w, () -> x.look(w, 0));
            check.noIndex("what " + w, () -> x.look(0, w));
        }
        check.noIndex("box 2", () -> x.look(2, 0));
        x.plan(3);
        x.work(3);
        int[] out = {0, 3, 3, -1};
        for (int what = 0; what < 4; what++) {
            check.due("out: look(1, " + what + ")", out[what], x.look(1, what));
        }
        check.end();
    }
}
