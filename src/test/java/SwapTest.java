/** Promise 10: boxes swapped. */
public final class SwapTest {
    private static final Check CHECK = new Check();

    private static String place(MoveOrder x, int box) {
        return x.look(box, 0) + " " + x.look(box, 1) + " " + x.look(box, 2) + " " + x.look(box, 3);
    }

    private static MoveOrder ship() {
        MoveOrder x = new MoveOrder(3, 3);
        x.box(0, 0, 0);
        x.box(0, 0, 2);
        x.box(1, 1, 2);
        x.box(1, 2, 0);
        x.box(1, 2, 2);
        return x;
    }

    private static void otherBay() {
        MoveOrder x = ship();
        x.plan(0);
        x.plan(1);
        x.plan(2);
        CHECK.due("swap", 1, x.swap(1, 4));
        CHECK.same("place of 1", "2 1 2 1", place(x, 1));
        CHECK.same("place of 4", "2 0 0 1", place(x, 4));
        CHECK.due("plan void", -1, x.count(20));
        CHECK.due("plan void", -1, x.count(21));
        CHECK.due("plan of a bay without them stands", 0, x.count(22));
        CHECK.planDue("plan with the other box", "4:0>1 0:0>3", x, 0);
        CHECK.planDue("plan with the other box", "1:2>0 3:2>3", x, 1);
        CHECK.due("swap of boxes that leave", 1, x.swap(3, 0));
        CHECK.isFalse("needs by the new bays", x.before(0, 3));
        x.box(1, 0, 0);
        CHECK.isTrue("needs by the new bays", x.before(0, 5));
    }

    private static void oneBay() {
        MoveOrder x = ship();
        x.plan(0);
        x.plan(1);
        CHECK.due("swap", 1, x.swap(2, 4));
        CHECK.same("place of 2", "2 1 2 1", place(x, 2));
        CHECK.same("place of 4", "2 1 1 0", place(x, 4));
        CHECK.due("plan void", -1, x.count(21));
        CHECK.due("plan stands", 2, x.count(20));
    }

    private static void refused() {
        MoveOrder x = ship();
        int[] boxes = {-1, 5, 16, Integer.MIN_VALUE, Integer.MAX_VALUE};
        for (int box : boxes) {
            CHECK.illegal("swap(" + box + ", 0)", () -> x.swap(box, 0));
            CHECK.illegal("swap(0, " + box + ")", () -> x.swap(0, box));
            CHECK.illegal("swap of none with itself", () -> x.swap(box, box));
        }
        x.plan(0);
        x.plan(1);
        CHECK.due("one", 0, x.swap(1, 1));
        CHECK.due("other ports", 0, x.swap(0, 1));
        CHECK.due("plans stand", 2, x.count(20));
        CHECK.due("plans stand", 2, x.count(21));
        x.work(0);
        x.work(0);
        CHECK.due("one out", 0, x.swap(0, 3));
        CHECK.due("one out", 0, x.swap(3, 0));
        CHECK.due("plans stand", 0, x.count(20));
        CHECK.same("place of 3", "0 1 2 0", place(x, 3));
    }

    private static void needs() {
        MoveOrder x = new MoveOrder(2, 3);
        x.box(0, 0, 0);
        x.box(0, 1, 0);
        x.box(0, 2, 0);
        x.box(1, 0, 0);
        x.before(1, 0);
        CHECK.due("one follows", 0, x.swap(0, 3));
        CHECK.due("other follows", 0, x.swap(3, 0));
        CHECK.due("one is before", 0, x.swap(1, 3));
        CHECK.due("other is before", 0, x.swap(3, 1));
        CHECK.due("both of a need", 0, x.swap(0, 1));
        CHECK.due("none has needs", 1, x.swap(2, 3));
        x.plan(0);
        x.work(0);
        CHECK.due("box 1 is out", 3, x.look(1, 2));
        CHECK.due("a need told stays told", 0, x.swap(0, 3));
    }

    public static void main(String[] args) {
        otherBay();
        oneBay();
        refused();
        needs();
        CHECK.end();
    }
}
