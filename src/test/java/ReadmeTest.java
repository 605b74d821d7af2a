/** The calls of the example in README.md, which tells these answers. */
public final class ReadmeTest {
    public static void main(String[] args) {
        Check check = new Check();
        MoveOrder ship = new MoveOrder(1, 3);
        int low = ship.box(0, 0, 0);
        int high = ship.box(0, 0, 2);
        int side = ship.box(0, 1, 0);
        check.due("low", 0, low);
        check.due("high", 1, high);
        check.due("side", 2, side);
        check.isTrue("told", ship.before(low, side));
        check.due("bound", 3, ship.least(0));
        check.planDue("plan", "1:0>2 0:0>3 2:1>3", ship, 0);
        check.due("to", 2, ship.move(0, 0, 2));
        check.due("waiting", 1, ship.loads(0, 1));
        check.due("joined", 1, ship.dual(0));
        check.due("left", 2, ship.work(0));
        check.due("stack", 2, ship.look(high, 2));
        check.due("out", 0, ship.count(1));
        check.end();
    }
}
