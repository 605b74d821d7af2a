/** Promise 2: one more box on a stack. */
public final class BoxTest {
    private static final Check CHECK = new Check();

    /** Four bays with 4, 4, 4 and 3 boxes; tiers 4, and stack 0 of bay 0 is full. */
    private static MoveOrder fifteen() {
        MoveOrder x = new MoveOrder(4, 4);
        for (int i = 0; i < 15; i++) {
            x.box(i / 4, i < 4 ? 0 : i % 3, 0);
        }
        return x;
    }

    private static void itsNumber() {
        CHECK.sentence("One more BOX on a stack: its number");
        MoveOrder x = new MoveOrder(4, 4);
        for (int i = 0; i < 16; i++) {
            CHECK.due("box", i, x.box(i % 4, i % 3, i % 6));
            CHECK.due("boxes", i + 1, x.count(0));
        }
    }

    private static void edgesThatAre() {
        CHECK.sentence("the first and last bay, stack and port there are");
        MoveOrder x = new MoveOrder(3, 2);
        x.box(0, 0, 0);
        x.box(2, 2, 5);
        CHECK.same("place of 0", "0 0 0 0", Check.place(x, 0));
        CHECK.same("place of 1", "5 2 2 0", Check.place(x, 1));
    }

    private static void laterAbove() {
        CHECK.sentence("those put there later above");
        MoveOrder x = new MoveOrder(2, 3);
        x.box(0, 1, 2);
        x.box(0, 2, 2);
        x.box(1, 1, 2);
        x.box(0, 1, 2);
        x.box(0, 1, 2);
        int[] tiers = {0, 0, 0, 1, 2};
        for (int box = 0; box < tiers.length; box++) {
            CHECK.due("tier of " + box, tiers[box], x.look(box, 3));
        }
    }

    private static void noSuchBay() {
        CHECK.sentence("IllegalArgumentException if there is no such bay");
        int[] given = {-1, Integer.MIN_VALUE, Integer.MAX_VALUE};
        for (int bays = 1; bays <= 4; bays++) {
            int after = bays;
            MoveOrder x = new MoveOrder(bays, 3);
            CHECK.illegal("bay " + after + " of " + bays, x, () -> x.box(after, 0, 0));
            for (int bay : given) {
                CHECK.illegal("bay " + bay + " of " + bays, x, () -> x.box(bay, 0, 0));
            }
        }
    }

    private static void noSuchStack() {
        CHECK.sentence("IllegalArgumentException if there is no such stack");
        MoveOrder x = new MoveOrder(4, 4);
        int[] given = {-1, 3, 4, Integer.MIN_VALUE, Integer.MAX_VALUE};
        for (int stack : given) {
            CHECK.illegal("stack " + stack, x, () -> x.box(0, stack, 0));
        }
    }

    private static void noSuchPort() {
        CHECK.sentence("IllegalArgumentException if there is no such port");
        MoveOrder x = new MoveOrder(4, 4);
        int[] given = {-1, 6, 7, Integer.MIN_VALUE, Integer.MAX_VALUE};
        for (int port : given) {
            CHECK.illegal("port " + port, x, () -> x.box(0, 0, port));
        }
    }

    private static void sixteen() {
        CHECK.sentence("IllegalStateException if there are 16");
        MoveOrder x = fifteen();
        CHECK.due("the last there may be", 15, x.box(3, 2, 5));
        x.plan(1);
        for (int i = 0; i < 4; i++) {
            x.work(1);
        }
        CHECK.due("four are out", 4, x.count(1));
        for (int stack = 0; stack < 3; stack++) {
            int on = stack;
            CHECK.badState("one more in an empty bay", x, () -> x.box(1, on, 0));
        }
    }

    private static void fourInTheBay() {
        CHECK.sentence("IllegalStateException if there are 4 that lie in that bay");
        MoveOrder x = new MoveOrder(2, 4);
        int[] stacks = {0, 1, 2, 0};
        for (int i = 0; i < 4; i++) {
            CHECK.due("box", i, x.box(0, stacks[i], i));
        }
        for (int stack = 0; stack < 3; stack++) {
            int on = stack;
            CHECK.badState("fifth on stack " + stack, x, () -> x.box(0, on, 1));
        }
        CHECK.due("the other bay has room", 4, x.box(1, 2, 1));
    }

    private static void outNoMore() {
        CHECK.sentence("4 that lie: those OUT do not");
        MoveOrder x = new MoveOrder(1, 4);
        for (int i = 0; i < 4; i++) {
            x.box(0, 0, 0);
        }
        for (int i = 4; i < 8; i++) {
            CHECK.badState("full", x, () -> x.box(0, 1, 0));
            x.plan(0);
            x.work(0);
            CHECK.due("box in place of one that is out", i, x.box(0, 2, 3));
        }
        CHECK.badState("full again", x, () -> x.box(0, 1, 0));
        CHECK.due("four are out, four lie", 8, x.count(0));
    }

    private static void stackIsFull() {
        CHECK.sentence("IllegalStateException if the stack is full");
        for (int tiers = 1; tiers <= 3; tiers++) {
            MoveOrder x = new MoveOrder(2, tiers);
            for (int i = 0; i < tiers; i++) {
                CHECK.due("box of tiers " + tiers, i, x.box(1, 1, 3));
            }
            CHECK.badState("one more of tiers " + tiers, x, () -> x.box(1, 1, 3));
            CHECK.due("the stack beside has room", tiers, x.box(1, 2, 3));
            CHECK.due("that stack of the other bay has room", tiers + 1, x.box(0, 1, 3));
        }
    }

    private static void roomAgain() {
        CHECK.sentence("the stack is full, as boxes lie after work");
        MoveOrder x = new MoveOrder(1, 1);
        x.box(0, 0, 0);
        CHECK.badState("full", x, () -> x.box(0, 0, 1));
        x.plan(0);
        x.work(0);
        CHECK.due("one is out", 1, x.box(0, 0, 1));
        MoveOrder y = new MoveOrder(1, 2);
        y.box(0, 0, 0);
        y.box(0, 0, 1);
        y.box(0, 1, 1);
        CHECK.planDue("to stack 1", "1:0>1 0:0>3", y, 0);
        y.work(0);
        CHECK.badState("a move filled stack 1", y, () -> y.box(0, 1, 1));
        CHECK.due("a move made room on stack 0", 3, y.box(0, 0, 1));
    }

    private static void toldFirst() {
        CHECK.sentence("Of several exceptions the one told first is thrown");
        MoveOrder x = fifteen();
        CHECK.illegal("no such stack, 4 in the bay", x, () -> x.box(0, 3, 0));
        CHECK.illegal("no such port, the stack full", x, () -> x.box(0, 0, 6));
        x.box(3, 0, 0);
        CHECK.illegal("no such bay, 16 boxes", x, () -> x.box(4, 0, 0));
        CHECK.illegal("no such stack, 16 boxes", x, () -> x.box(3, -1, 0));
        CHECK.illegal("no such port, 16 boxes", x, () -> x.box(3, 0, -1));
    }

    private static void planIsVoid() {
        CHECK.sentence("void when a box of that bay is told");
        MoveOrder x = new MoveOrder(2, 2);
        x.box(0, 0, 0);
        x.box(1, 0, 0);
        x.plan(0);
        x.plan(1);
        x.box(0, 1, 4);
        CHECK.same("plan of that bay", "none", Check.planned(x, 0));
        CHECK.same("plan of the other bay", "1:0>3", Check.planned(x, 1));
    }

    private static void refusedChangesNothing() {
        CHECK.sentence("What throws changes nothing");
        MoveOrder x = new MoveOrder(2, 1);
        x.box(0, 0, 0);
        x.box(0, 1, 0);
        x.plan(0);
        x.plan(1);
        x.work(0);
        CHECK.badState("full stack", x, () -> x.box(0, 1, 0));
        CHECK.illegal("no such bay", x, () -> x.box(2, 0, 0));
        CHECK.illegal("no such stack", x, () -> x.box(0, 3, 0));
        CHECK.illegal("no such port", x, () -> x.box(0, 0, 6));
        CHECK.same("plan", "0:0>3* 1:1>3", Check.planned(x, 0));
        CHECK.due("no number was used", 2, x.box(0, 0, 0));
    }

    public static void main(String[] args) {
        itsNumber();
        edgesThatAre();
        laterAbove();
        noSuchBay();
        noSuchStack();
        noSuchPort();
        sixteen();
        fourInTheBay();
        outNoMore();
        stackIsFull();
        roomAgain();
        toldFirst();
        planIsVoid();
        refusedChangesNothing();
        CHECK.end();
    }
}
