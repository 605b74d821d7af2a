/**
 * Sentences of the promises 2, 3, 4, 6, 7, 9, 10, 11 and 12 that tell of boxes ASIDE, which no run of calls brings
 * about under the document's limits: there is room for four boxes in three stacks.
 */
public final class AsideTest {
    private static final Check CHECK = new Check();

    /** Two bays; boxes of bay 0, each told by its stack and port. */
    private static MoveOrder ship(int tiers, int... stacksAndPorts) {
        MoveOrder x = new MoveOrder(2, tiers);
        for (int i = 0; i + 1 < stacksAndPorts.length; i += 2) {
            x.box(0, stacksAndPorts[i], stacksAndPorts[i + 1]);
        }
        return x;
    }

    private static void fourOfTheBay() {
        CHECK.sentence("2: IllegalStateException if there are 4 that lie or are ASIDE in that bay");
        MoveOrder x = ship(4, 0, 1, 1, 1, 2, 1);
        Inside.setAside(x, 0, 0, 2);
        CHECK.due("the fourth", 3, x.box(0, 2, 1));
        for (int stack = 0; stack < 3; stack++) {
            int on = stack;
            CHECK.badState("a fifth", x, () -> x.box(0, on, 1));
        }
        CHECK.due("the other bay", 4, x.box(1, 0, 1));
    }

    private static void asideIsOnNoStack() {
        CHECK.sentence("2: the stack is full, not by those ASIDE");
        MoveOrder x = ship(1, 0, 1);
        Inside.setAside(x, 0, 0);
        CHECK.due("box", 1, x.box(0, 0, 1));
        CHECK.due("tier", 0, x.look(1, 3));
        CHECK.badState("full", x, () -> x.box(0, 0, 1));
    }

    private static void needsOfOneAside() {
        CHECK.sentence("3: false if one is OUT, but not if it is ASIDE");
        MoveOrder x = ship(2, 0, 0, 1, 0);
        Inside.setAside(x, 0, 0);
        CHECK.isTrue("before(0, 1)", x.before(0, 1));
        CHECK.planDue("back, then out first", "0:3>0 0:0>3 1:1>3", x, 0);
    }

    private static void noneIsAside() {
        CHECK.sentence("4: behind the plan all boxes that leave HERE are OUT and none is ASIDE");
        MoveOrder x = ship(2, 0, 1, 0, 1);
        Inside.setAside(x, 0, 1, 0);
        CHECK.planDue("both come back, by numbers", "0:3>0 1:3>0", x, 0);
        MoveOrder y = ship(2, 0, 0);
        Inside.setAside(y, 0, 0);
        CHECK.planDue("out by way of a stack", "0:3>0 0:0>3", y, 0);
    }

    private static void whichOfThoseAside() {
        CHECK.sentence("4: from 3 + which of those that are aside, by numbers");
        MoveOrder x = ship(1, 2, 1, 1, 0, 0, 1);
        Inside.setAside(x, 0, 2, 1, 0);
        CHECK.planDue("the first of the least from", "0:3>0 1:3>1 1:1>3 2:3>1", x, 0);
        MoveOrder y = ship(1, 0, 0, 1, 1, 2, 0);
        y.before(2, 0);
        Inside.setAside(y, 0, 0, 1, 2);
        CHECK.planDue("the need turns the order", "0:3>0 1:3>1 2:3>2 2:2>3 0:0>3", y, 0);
    }

    private static void notTheFirstOfThoseAside() {
        CHECK.sentence("4: from 3 + which, the second of those that are aside");
        MoveOrder x = ship(1, 0, 1, 1, 0);
        Inside.setAside(x, 0, 0, 1);
        x.box(0, 1, 1);
        x.box(0, 2, 1);
        CHECK.planDue("one free stack", "1:4>0 1:0>3 0:3>0", x, 0);
        for (int left = 2; left >= 0; left--) {
            CHECK.due("left", left, x.work(0));
        }
        CHECK.same("place of 1", "0 0 3 -1", Check.place(x, 1));
        CHECK.same("place of 0", "1 0 0 0", Check.place(x, 0));
        MoveOrder y = ship(1, 0, 0, 1, 0, 2, 0);
        y.before(2, 1);
        y.before(1, 0);
        Inside.setAside(y, 0, 0, 1, 2);
        y.box(0, 0, 1);
        CHECK.planDue("two free stacks", "0:3>1 2:4>2 2:2>3 1:3>2 1:2>3 0:1>3", y, 0);
    }

    private static void setAsideAndBack() {
        CHECK.sentence("4: ASIDE (4) where no stack has room, and back");
        MoveOrder x = ship(2, 0, 0, 0, 1, 1, 1, 2, 1);
        Inside.setPlanTiers(x, 1);
        CHECK.planDue("aside, out, back", "1:0>4 0:0>3 1:3>0", x, 0);
        CHECK.due("set aside", 2, x.work(0));
        CHECK.same("aside", "1 0 4 -1", Check.place(x, 1));
        CHECK.due("out", 1, x.work(0));
        CHECK.due("back", 0, x.work(0));
        CHECK.same("back", "1 0 0 0", Check.place(x, 1));
        CHECK.due("none is aside", 0, x.count(2));
    }

    private static void asideByNeeds() {
        CHECK.sentence("4: ASIDE (4) behind the less to, as needs ask for it");
        MoveOrder x = ship(3, 0, 0, 0, 0, 0, 0, 1, 1);
        x.before(0, 1);
        x.before(1, 2);
        Inside.setPlanTiers(x, 1);
        CHECK.planDue("0 1 2", "2:0>2 1:0>4 0:0>3 1:3>0 1:0>3 2:2>3", x, 0);
    }

    private static void workAside() {
        CHECK.sentence("6: a move ASIDE and one back take no load");
        MoveOrder x = ship(2, 0, 1);
        x.loads(0, 3);
        Inside.setAside(x, 0, 0);
        CHECK.due("loads", 3, x.count(10));
        Inside.setPlan(x, 0, new int[] {0, 3, 2});
        x.work(0);
        CHECK.same("back", "1 0 2 0", Check.place(x, 0));
        CHECK.due("loads", 3, x.count(10));
        CHECK.due("gone", 0, x.count(4));
        CHECK.due("moves worked", 2, x.count(3));
    }

    private static void boundOfThoseAside() {
        CHECK.sentence("7: one for each box that leaves HERE, ASIDE too; others only in a stack");
        MoveOrder x = ship(2, 0, 0, 0, 1, 1, 0);
        CHECK.due("all lie", 3, x.least(0));
        Inside.setAside(x, 0, 1);
        CHECK.due("the other one is aside", 2, x.least(0));
        Inside.setAside(x, 0, 2);
        CHECK.due("one that leaves is aside", 2, x.least(0));
        MoveOrder y = ship(3, 0, 0, 0, 0);
        Inside.setAside(y, 0, 1);
        y.box(0, 1, 3);
        CHECK.due("aside is above none and below none", 2, y.least(0));
        MoveOrder z = ship(4, 0, 0, 0, 1, 1, 2, 1, 2);
        Inside.setAside(z, 0, 1, 0);
        CHECK.due("aside is no stack", 1, z.least(0));
    }

    private static void dualOfMovesOut() {
        CHECK.sentence("9: DUAL cycles of moves OUT, not of those ASIDE");
        MoveOrder x = ship(2, 0, 0, 0, 1, 1, 1, 2, 1);
        Inside.setPlanTiers(x, 1);
        x.plan(0);
        x.loads(0, 5);
        CHECK.due("aside, out, back", 1, x.dual(0));
    }

    private static void swapOfOneAside() {
        CHECK.sentence("10: 0 if one is ASIDE");
        MoveOrder x = ship(2, 0, 1, 1, 1, 2, 1);
        Inside.setAside(x, 0, 0);
        CHECK.refused("the first", x, () -> x.swap(0, 1));
        CHECK.refused("the second", x, () -> x.swap(1, 0));
        CHECK.due("none of both", 1, x.swap(1, 2));
        Inside.setAside(x, 0, 1);
        CHECK.refused("both", x, () -> x.swap(0, 1));
    }

    private static void lookAside() {
        CHECK.sentence("11: 2: stack (4 ASIDE), 3: tier (NONE ASIDE)");
        MoveOrder x = new MoveOrder(2, 2);
        x.box(1, 2, 5);
        Inside.setAside(x, 1, 0);
        CHECK.same("place", "5 1 4 -1", Check.place(x, 0));
    }

    private static void countAside() {
        CHECK.sentence("12: 2: those ASIDE");
        MoveOrder x = ship(2, 0, 1, 1, 1);
        x.box(1, 0, 1);
        Inside.setAside(x, 0, 0, 1);
        CHECK.due("two", 2, x.count(2));
        Inside.setAside(x, 1, 2);
        CHECK.due("in all bays", 3, x.count(2));
        CHECK.due("none is out", 0, x.count(1));
        CHECK.due("boxes", 3, x.count(0));
    }

    public static void main(String[] args) {
        fourOfTheBay();
        asideIsOnNoStack();
        needsOfOneAside();
        noneIsAside();
        whichOfThoseAside();
        notTheFirstOfThoseAside();
        setAsideAndBack();
        asideByNeeds();
        workAside();
        boundOfThoseAside();
        dualOfMovesOut();
        swapOfOneAside();
        lookAside();
        countAside();
        CHECK.end();
    }
}
