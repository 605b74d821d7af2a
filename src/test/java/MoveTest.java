/** Promise 5: a move of a plan. */
public final class MoveTest {
    private static final Check CHECK = new Check();

    /** Bay 0 with the plan 2:1>0 1:1>3, bay 1 with one that has no moves, bay 2 without one. */
    private static MoveOrder ship() {
        MoveOrder x = new MoveOrder(3, 2);
        x.box(1, 0, 3);
        x.box(0, 1, 0);
        x.box(0, 1, 2);
        x.plan(0);
        x.plan(1);
        return x;
    }

    private static void whats() {
        CHECK.sentence("what 0: box, 1: from, 2: to, 3: 1 if it was worked, else 0");
        MoveOrder x = ship();
        int[][] want = {{2, 1, 0, 0}, {1, 1, 3, 0}};
        for (int worked = 0; worked <= 2; worked++) {
            for (int i = 0; i < 2; i++) {
                for (int what = 0; what < 3; what++) {
                    CHECK.due("move(0, " + i + ", " + what + ")", want[i][what], x.move(0, i, what));
                }
                CHECK.due("move(0, " + i + ", 3), worked " + worked, i < worked ? 1 : 0, x.move(0, i, 3));
            }
            if (worked < 2) {
                x.work(0);
            }
        }
    }

    private static void firstPlanned() {
        CHECK.sentence("Move i of a bay's plan (0 the first that was planned)");
        MoveOrder x = ship();
        x.work(0);
        CHECK.due("0 stays the first, though worked", 2, x.move(0, 0, 0));
        x.plan(0);
        CHECK.due("0 is the first of the new plan", 1, x.move(0, 0, 0));
        CHECK.noIndex("which has one move", x, () -> x.move(0, 1, 0));
    }

    private static void noSuchBay() {
        CHECK.sentence("IndexOutOfBoundsException if there is no such bay");
        MoveOrder x = ship();
        int[] given = {-1, 3, 4, Integer.MIN_VALUE, Integer.MAX_VALUE};
        for (int bay : given) {
            CHECK.noIndex("bay " + bay, x, () -> x.move(bay, 0, 0));
        }
    }

    private static void noSuchMove() {
        CHECK.sentence("IndexOutOfBoundsException if there is no such move");
        MoveOrder x = ship();
        int[] given = {-1, 2, 3, 11, 12, 13, Integer.MIN_VALUE, Integer.MAX_VALUE};
        for (int i : given) {
            for (int what = 0; what < 4; what++) {
                int which = what;
                CHECK.noIndex("move " + i, x, () -> x.move(0, i, which));
            }
        }
        CHECK.noIndex("first of a plan without moves", x, () -> x.move(1, 0, 0));
    }

    private static void noSuchWhat() {
        CHECK.sentence("IndexOutOfBoundsException if there is no such what");
        MoveOrder x = ship();
        int[] given = {-1, 4, 5, Integer.MIN_VALUE, Integer.MAX_VALUE};
        for (int what : given) {
            CHECK.noIndex("what " + what, x, () -> x.move(0, 0, what));
        }
    }

    private static void noPlan() {
        CHECK.sentence("IndexOutOfBoundsException if there is no plan");
        MoveOrder x = ship();
        CHECK.noIndex("never planned", x, () -> x.move(2, 0, 0));
        x.box(0, 0, 1);
        CHECK.noIndex("void by a box", x, () -> x.move(0, 0, 0));
        x.box(0, 2, 0);
        x.plan(0);
        x.before(1, 4);
        CHECK.noIndex("void by a need", x, () -> x.move(0, 0, 0));
        x.box(1, 2, 2);
        x.plan(0);
        x.swap(2, 5);
        CHECK.noIndex("void by a swap", x, () -> x.move(0, 0, 0));
    }

    private static void noPlanBehindWork() {
        CHECK.sentence("no plan, though moves of one were worked");
        MoveOrder x = ship();
        x.work(0);
        x.box(0, 2, 1);
        CHECK.noIndex("the worked move", x, () -> x.move(0, 0, 3));
    }

    public static void main(String[] args) {
        whats();
        firstPlanned();
        noSuchBay();
        noSuchMove();
        noSuchWhat();
        noPlan();
        noPlanBehindWork();
        CHECK.end();
    }
}
