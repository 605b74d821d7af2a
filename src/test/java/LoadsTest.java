/** Promise 8: loads that wait. */
public final class LoadsTest {
    private static final Check CHECK = new Check();

    private static void howManyWait() {
        CHECK.sentence("LOADS of a bay grow: how many wait");
        MoveOrder x = new MoveOrder(2, 2);
        CHECK.due("0 at first", 0, x.count(10));
        CHECK.due("1", 1, x.loads(0, 1));
        CHECK.due("4 more", 5, x.loads(0, 4));
        CHECK.due("of the other bay", 7, x.loads(1, 7));
        CHECK.due("count", 5, x.count(10));
        CHECK.due("count of the other", 7, x.count(11));
    }

    private static void noSuchBay() {
        CHECK.sentence("IllegalArgumentException if there is no such bay");
        MoveOrder x = new MoveOrder(2, 2);
        int[] given = {-1, 2, 3, Integer.MIN_VALUE, Integer.MAX_VALUE};
        for (int bay : given) {
            CHECK.illegal("loads(" + bay + ", 1)", x, () -> x.loads(bay, 1));
        }
        CHECK.due("the last bay", 1, x.loads(1, 1));
    }

    private static void tooFew() {
        CHECK.sentence("IllegalArgumentException if n is not 1 .. 100, too small");
        MoveOrder x = new MoveOrder(1, 1);
        x.loads(0, 50);
        int[] given = {0, -1, -50, Integer.MIN_VALUE};
        for (int n : given) {
            CHECK.illegal("loads(0, " + n + ")", x, () -> x.loads(0, n));
        }
        CHECK.due("1 is enough", 51, x.loads(0, 1));
    }

    private static void tooMany() {
        CHECK.sentence("IllegalArgumentException if n is not 1 .. 100, too large");
        MoveOrder x = new MoveOrder(1, 1);
        int[] given = {101, 102, Integer.MAX_VALUE};
        for (int n : given) {
            CHECK.illegal("loads(0, " + n + ")", x, () -> x.loads(0, n));
        }
        CHECK.due("100 is not too large", 100, x.loads(0, 100));
    }

    private static void moreThanAHundred() {
        CHECK.sentence("IllegalStateException if there would be more than 100");
        MoveOrder x = new MoveOrder(2, 1);
        x.loads(0, 1);
        CHECK.badState("1 and 100", x, () -> x.loads(0, 100));
        CHECK.due("1 and 99", 100, x.loads(0, 99));
        CHECK.badState("100 and 1", x, () -> x.loads(0, 1));
        CHECK.badState("100 and 100", x, () -> x.loads(0, 100));
        CHECK.due("100 of the other bay", 100, x.loads(1, 100));
    }

    private static void roomBehindOneThatWent() {
        CHECK.sentence("more than 100 that wait, not of those that went");
        MoveOrder x = new MoveOrder(1, 1);
        x.box(0, 0, 0);
        x.plan(0);
        x.loads(0, 100);
        x.work(0);
        CHECK.due("one went", 99, x.count(10));
        CHECK.badState("2 more", x, () -> x.loads(0, 2));
        CHECK.due("1 more", 100, x.loads(0, 1));
    }

    private static void toldFirst() {
        CHECK.sentence("Of several exceptions the one told first is thrown");
        MoveOrder x = new MoveOrder(1, 1);
        x.loads(0, 100);
        int[] given = {101, Integer.MAX_VALUE, Integer.MAX_VALUE - 99};
        for (int n : given) {
            CHECK.illegal("no such n, more than 100: " + n, x, () -> x.loads(0, n));
        }
        CHECK.illegal("no such bay, with 100", x, () -> x.loads(1, 100));
    }

    public static void main(String[] args) {
        howManyWait();
        noSuchBay();
        tooFew();
        tooMany();
        moreThanAHundred();
        roomBehindOneThatWent();
        toldFirst();
        CHECK.end();
    }
}
