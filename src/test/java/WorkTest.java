/** Promise 6: the next move of a plan is done. */
public final class WorkTest {
    private static final Check CHECK = new Check();

    /** Bay 0 with the plan 2:1>0 1:1>3, bay 1 with the plan 3:2>3. */
    private static MoveOrder ship() {
        MoveOrder x = new MoveOrder(2, 3);
        x.box(0, 0, 1);
        x.box(0, 1, 0);
        x.box(0, 1, 4);
        x.box(1, 2, 0);
        x.plan(0);
        x.plan(1);
        return x;
    }

    private static void howManyAreLeft() {
        CHECK.sentence("WORK: how many moves of the plan are left then");
        MoveOrder x = ship();
        CHECK.due("first", 1, x.work(0));
        CHECK.due("left of it", 1, x.count(20));
        CHECK.due("left of the other bay's", 1, x.count(21));
        CHECK.due("last", 0, x.work(0));
        CHECK.due("last of the other bay's", 0, x.work(1));
    }

    private static void nextMoveIsDone() {
        CHECK.sentence("WORK: the next move of a bay's plan is done");
        MoveOrder x = ship();
        x.work(0);
        CHECK.same("to a stack, above the one there", "4 0 0 1", Check.place(x, 2));
        CHECK.same("the one below it lies as it lay", "1 0 0 0", Check.place(x, 0));
        CHECK.same("the next is not moved yet", "0 0 1 0", Check.place(x, 1));
        x.work(0);
        CHECK.same("out", "0 0 3 -1", Check.place(x, 1));
        CHECK.due("out in all", 1, x.count(1));
        CHECK.same("the other bay's box lies", "0 1 2 0", Check.place(x, 3));
    }

    private static void toAnEmptyStack() {
        CHECK.sentence("WORK: a move to an empty stack");
        MoveOrder x = new MoveOrder(1, 2);
        x.box(0, 0, 0);
        x.box(0, 0, 1);
        x.plan(0);
        x.work(0);
        CHECK.same("lowest tier", "1 0 1 0", Check.place(x, 1));
    }

    private static void noSuchBay() {
        CHECK.sentence("IllegalArgumentException if there is no such bay");
        int[] given = {-1, 2, 3, Integer.MIN_VALUE, Integer.MAX_VALUE};
        MoveOrder x = ship();
        for (int bay : given) {
            CHECK.illegal("work(" + bay + ")", x, () -> x.work(bay));
        }
    }

    private static void withoutAPlan() {
        CHECK.sentence("IllegalStateException without a plan");
        MoveOrder fresh = new MoveOrder(1, 1);
        fresh.box(0, 0, 0);
        CHECK.badState("never planned", fresh, () -> fresh.work(0));
        MoveOrder x = ship();
        x.box(0, 2, 0);
        CHECK.badState("void by a box", x, () -> x.work(0));
        x.plan(0);
        x.before(1, 4);
        CHECK.badState("void by a need", x, () -> x.work(0));
        x.box(1, 0, 4);
        x.plan(0);
        x.plan(1);
        x.swap(2, 5);
        CHECK.badState("void by a swap", x, () -> x.work(0));
        CHECK.badState("void by a swap, the other bay", x, () -> x.work(1));
    }

    private static void noneLeft() {
        CHECK.sentence("IllegalStateException with none left");
        MoveOrder x = ship();
        x.work(1);
        CHECK.badState("all worked", x, () -> x.work(1));
        CHECK.badState("and again", x, () -> x.work(1));
        CHECK.same("the plan stands", "3:2>3*", Check.planned(x, 1));
        MoveOrder y = new MoveOrder(1, 1);
        y.plan(0);
        CHECK.badState("plan without moves", y, () -> y.work(0));
    }

    private static void loadGoes() {
        CHECK.sentence("when a move OUT is worked, a load that waits for that bay goes");
        MoveOrder x = ship();
        x.loads(0, 2);
        x.loads(1, 5);
        x.work(0);
        CHECK.due("none with a move to a stack", 2, x.count(10));
        CHECK.due("gone", 0, x.count(4));
        x.work(0);
        CHECK.due("one with a move out", 1, x.count(10));
        CHECK.due("gone", 1, x.count(4));
        CHECK.due("the other bay's wait", 5, x.count(11));
        x.work(1);
        CHECK.due("one of the other bay's", 4, x.count(11));
        CHECK.due("gone in all", 2, x.count(4));
    }

    private static void ifThereIsOne() {
        CHECK.sentence("a load goes (if there is one)");
        MoveOrder x = ship();
        x.loads(0, 1);
        CHECK.due("a move out of bay 1, without loads", 0, x.work(1));
        CHECK.due("none waits there", 0, x.count(11));
        CHECK.due("none went", 0, x.count(4));
        CHECK.due("the other bay's waits", 1, x.count(10));
        CHECK.due("out all the same", 3, x.look(3, 2));
    }

    public static void main(String[] args) {
        howManyAreLeft();
        nextMoveIsDone();
        toAnEmptyStack();
        noSuchBay();
        withoutAPlan();
        noneLeft();
        loadGoes();
        ifThereIsOne();
        CHECK.end();
    }
}
