/** Promise 2: one more box on a stack. */
public final class BoxTest {
    private static final Check CHECK = new Check();

    private static void wrongArguments() {
        MoveOrder x = new MoveOrder(2, 3);
        int[] bays = {-1, 2, 3, Integer.MIN_VALUE, Integer.MAX_VALUE};
        for (int bay : bays) {
            CHECK.illegal("box bay " + bay, () -> x.box(bay, 0, 0));
        }
        int[] stacks = {-1, 3, 4, Integer.MIN_VALUE, Integer.MAX_VALUE};
        for (int stack : stacks) {
            CHECK.illegal("box stack " + stack, () -> x.box(0, stack, 0));
        }
        int[] ports = {-1, 6, Integer.MIN_VALUE, Integer.MAX_VALUE};
        for (int port : ports) {
            CHECK.illegal("box port " + port, () -> x.box(0, 0, port));
        }
        CHECK.due("boxes behind refusals", 0, x.count(0));
        CHECK.due("first number", 0, x.box(1, 2, 5));
        CHECK.due("port 5", 5, x.look(0, 0));
        CHECK.due("bay 1", 1, x.look(0, 1));
        CHECK.due("stack 2", 2, x.look(0, 2));
        CHECK.due("tier 0", 0, x.look(0, 3));
    }

    private static void fullStack() {
        for (int tiers = 1; tiers <= 4; tiers++) {
            MoveOrder x = new MoveOrder(1, tiers);
            for (int i = 0; i < tiers; i++) {
                CHECK.due("box in tiers " + tiers, i, x.box(0, 1, 3));
                CHECK.due("tier in tiers " + tiers, i, x.look(i, 3));
            }
            CHECK.badState("full stack of tiers " + tiers, () -> x.box(0, 1, 3));
            CHECK.illegal("wrong port told before a full stack", () -> x.box(0, 1, 6));
            CHECK.due("boxes behind a full stack", tiers, x.count(0));
        }
    }

    private static void fullBay() {
        MoveOrder x = new MoveOrder(2, 4);
        for (int i = 0; i < 4; i++) {
            x.box(0, i % 3, 0);
        }
        CHECK.badState("fifth box of a bay", () -> x.box(0, 2, 1));
        CHECK.due("box of the other bay", 4, x.box(1, 2, 1));
        x.plan(0);
        x.work(0);
        CHECK.due("one of the bay is out", 5, x.box(0, 2, 1));
        CHECK.badState("fifth box again", () -> x.box(0, 2, 1));
    }

    private static void sixteen() {
        MoveOrder x = new MoveOrder(4, 4);
        for (int i = 0; i < 16; i++) {
            CHECK.due("box", i, x.box(i / 4, i % 3, 0));
        }
        x.plan(2);
        for (int i = 0; i < 4; i++) {
            x.work(2);
        }
        CHECK.due("four out", 4, x.count(1));
        CHECK.badState("box 17, though its bay is empty", () -> x.box(2, 0, 0));
        CHECK.due("boxes", 16, x.count(0));
        CHECK.due("plan stands behind a refusal", 0, x.count(22));
    }

    private static void planIsVoid() {
        MoveOrder x = new MoveOrder(2, 1);
        x.box(0, 0, 0);
        x.plan(0);
        x.plan(1);
        CHECK.badState("full", () -> x.box(0, 0, 0));
        CHECK.due("refused: plan stands", 1, x.count(20));
        x.box(0, 1, 4);
        CHECK.due("plan void", -1, x.count(20));
        CHECK.due("plan of the other bay stands", 0, x.count(21));
    }

    public static void main(String[] args) {
        wrongArguments();
        fullStack();
        fullBay();
        sixteen();
        planIsVoid();
        CHECK.end();
    }
}
