/** Promise 3: needs among boxes. */
public final class BeforeTest {
    private static final Check CHECK = new Check();

    private static void refused() {
        MoveOrder x = new MoveOrder(2, 4);
        x.box(0, 0, 0);
        x.box(0, 1, 0);
        x.box(0, 2, 1);
        x.box(1, 0, 0);
        CHECK.isFalse("none such", x.before(0, 4));
        CHECK.isFalse("none such", x.before(4, 0));
        CHECK.isFalse("none such", x.before(-1, 0));
        CHECK.isFalse("none such", x.before(0, -1));
        CHECK.isFalse("none such", x.before(Integer.MAX_VALUE, Integer.MIN_VALUE));
        CHECK.isFalse("none such, by a shift's wrap", x.before(32, 1));
        CHECK.isFalse("other bay", x.before(0, 3));
        CHECK.isFalse("does not leave", x.before(0, 2));
        CHECK.isFalse("does not leave", x.before(2, 0));
        CHECK.isFalse("itself", x.before(0, 0));
        x.plan(0);
        CHECK.isFalse("itself", x.before(1, 1));
        CHECK.due("refused: plan stands", 2, x.count(20));
        CHECK.isTrue("told", x.before(0, 1));
        CHECK.due("plan void", -1, x.count(20));
        x.plan(0);
        CHECK.isFalse("told again", x.before(0, 1));
        CHECK.isFalse("ring of two", x.before(1, 0));
        CHECK.due("refused: plan stands", 2, x.count(20));
        x.work(0);
        x.box(0, 0, 0);
        CHECK.isFalse("first is out", x.before(0, 4));
        CHECK.isFalse("second is out", x.before(4, 0));
        CHECK.isTrue("both lie", x.before(4, 1));
    }

    private static void rings() {
        MoveOrder x = new MoveOrder(1, 4);
        for (int i = 0; i < 4; i++) {
            x.box(0, 0, 0);
        }
        CHECK.isTrue("2 before 0", x.before(2, 0));
        CHECK.isTrue("0 before 3", x.before(0, 3));
        CHECK.isFalse("ring of three", x.before(3, 2));
        CHECK.isTrue("3 before 1", x.before(3, 1));
        CHECK.isFalse("ring of four", x.before(1, 2));
        CHECK.isFalse("ring of three at the end", x.before(1, 0));
        CHECK.isTrue("what follows already is no ring", x.before(2, 1));
        CHECK.planDue("order 2 0 3 1", "3:0>1 2:0>3 1:0>2 0:0>3 3:1>3 1:2>3", x, 0);
    }

    public static void main(String[] args) {
        refused();
        rings();
        CHECK.end();
    }
}
