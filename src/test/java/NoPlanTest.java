/**
 * Sentences of the promises 4, 5, 6, 9 and 12 that tell of a bay which has no plan when it is planned. No run of
 * calls brings that about: needs are no ring, and four boxes find room.
 */
public final class NoPlanTest {
    private static final Check CHECK = new Check();

    /** A bay that had a plan, one move of it worked, when a ring came to its needs. */
    private static MoveOrder ship() {
        MoveOrder x = new MoveOrder(2, 2);
        x.box(0, 0, 0);
        x.box(0, 1, 0);
        x.box(1, 1, 0);
        x.loads(0, 5);
        x.plan(0);
        x.plan(1);
        x.work(0);
        Inside.setRing(x, 1);
        return x;
    }

    private static void noRoom() {
        CHECK.sentence("4: NONE if there is none, as a box set ASIDE could not come back");
        MoveOrder x = new MoveOrder(1, 3);
        x.box(0, 0, 0);
        x.box(0, 0, 1);
        CHECK.due("with room", 2, x.plan(0));
        Inside.setPlanTiers(x, 0);
        CHECK.due("no stack has room", -1, x.plan(0));
        CHECK.same("the plan that was is gone", "none", Check.planned(x, 0));
    }

    private static void ring() {
        CHECK.sentence("4: NONE if there is none");
        MoveOrder x = ship();
        CHECK.due("plan", -1, x.plan(0));
        CHECK.due("and again", -1, x.plan(0));
        CHECK.sentence("5: IndexOutOfBoundsException if there is no plan");
        CHECK.noIndex("move", x, () -> x.move(0, 0, 0));
        CHECK.sentence("6: IllegalStateException without a plan");
        CHECK.badState("work", x, () -> x.work(0));
        CHECK.sentence("9: NONE without a plan");
        CHECK.due("dual", -1, x.dual(0));
        CHECK.sentence("12: moves left of the plan (NONE without)");
        CHECK.due("count", -1, x.count(20));
        CHECK.sentence("4: THE PLAN of a bay, not of another");
        CHECK.same("the other bay's stands", "2:1>3", Check.planned(x, 1));
        CHECK.planDue("the other bay is planned still", "2:1>3", x, 1);
    }

    public static void main(String[] args) {
        noRoom();
        ring();
        CHECK.end();
    }
}
