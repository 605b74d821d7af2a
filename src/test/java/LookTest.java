/** Promise 11: what is known of a box. */
public final class LookTest {
    private static final Check CHECK = new Check();

    private static MoveOrder ship() {
        MoveOrder x = new MoveOrder(4, 4);
        x.box(3, 1, 5);
        x.box(3, 1, 0);
        x.box(2, 2, 0);
        return x;
    }

    private static void whats() {
        CHECK.sentence("what 0: port, 1: bay, 2: stack, 3: tier");
        MoveOrder x = ship();
        int[][] want = {{5, 3, 1, 0}, {0, 3, 1, 1}, {0, 2, 2, 0}};
        for (int box = 0; box < want.length; box++) {
            for (int what = 0; what < 4; what++) {
                CHECK.due("look(" + box + ", " + what + ")", want[box][what], x.look(box, what));
            }
        }
    }

    private static void allTiers() {
        CHECK.sentence("3: tier, the lowest and the highest");
        MoveOrder x = new MoveOrder(1, 4);
        for (int tier = 0; tier < 4; tier++) {
            CHECK.due("tier", tier, x.look(x.box(0, 2, 1), 3));
        }
    }

    private static void outIsThree() {
        CHECK.sentence("2: stack (3 OUT), 3: tier (NONE OUT)");
        MoveOrder x = ship();
        x.plan(3);
        x.work(3);
        CHECK.due("stack", 3, x.look(1, 2));
        CHECK.due("tier", -1, x.look(1, 3));
        CHECK.due("port", 0, x.look(1, 0));
        CHECK.due("the bay that it left", 3, x.look(1, 1));
        CHECK.same("the one below it", "5 3 1 0", Check.place(x, 0));
    }

    private static void noneSuch() {
        CHECK.sentence("IndexOutOfBoundsException if there is none such");
        MoveOrder fresh = new MoveOrder(1, 1);
        CHECK.noIndex("no box yet", fresh, () -> fresh.look(0, 0));
        MoveOrder x = ship();
        int[] given = {-1, 3, 4, 15, 16, Integer.MIN_VALUE, Integer.MAX_VALUE};
        for (int box : given) {
            for (int what = 0; what < 4; what++) {
                int which = what;
                CHECK.noIndex("box " + box, x, () -> x.look(box, which));
            }
        }
    }

    private static void theLastOfSixteen() {
        CHECK.sentence("none such, where there are 16");
        MoveOrder x = new MoveOrder(4, 4);
        for (int i = 0; i < 16; i++) {
            x.box(i / 4, 2, i % 6);
        }
        CHECK.same("box 15", "3 3 2 3", Check.place(x, 15));
        CHECK.noIndex("box 16", x, () -> x.look(16, 0));
    }

    private static void noSuchWhat() {
        CHECK.sentence("IndexOutOfBoundsException if there is no such what");
        MoveOrder x = ship();
        int[] given = {-1, 4, 5, Integer.MIN_VALUE, Integer.MAX_VALUE};
        for (int what : given) {
            CHECK.noIndex("what " + what, x, () -> x.look(0, what));
            CHECK.noIndex("no such box, and what " + what, x, () -> x.look(3, what));
        }
    }

    public static void main(String[] args) {
        whats();
        allTiers();
        outIsThree();
        noneSuch();
        theLastOfSixteen();
        noSuchWhat();
        CHECK.end();
    }
}
