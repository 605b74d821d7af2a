/** Promise 12: counts. */
public final class CountTest {
    private static final Check CHECK = new Check();

    /** Bay 2 with the plan 1:0>2 0:0>3 2:1>3 and one load, bay 0 with seven loads, bay 1 empty. */
    private static MoveOrder ship() {
        MoveOrder x = new MoveOrder(3, 2);
        x.box(2, 0, 0);
        x.box(2, 0, 1);
        x.box(2, 1, 0);
        x.box(0, 1, 0);
        x.loads(2, 1);
        x.loads(0, 7);
        CHECK.planDue("plan", "1:0>2 0:0>3 2:1>3", x, 2);
        return x;
    }

    private static void countsDue(String call, MoveOrder x, int first, int... want) {
        for (int i = 0; i < want.length; i++) {
            CHECK.due("count(" + (first + i) + "), " + call, want[i], x.count(first + i));
        }
    }

    private static void inAll() {
        CHECK.sentence("what 0: boxes, 1: those OUT, 2: those ASIDE, 3: moves worked, 4: loads that went so far");
        MoveOrder x = ship();
        countsDue("ahead", x, 0, 4, 0, 0, 0, 0);
        x.work(2);
        countsDue("behind a move to a stack", x, 0, 4, 0, 0, 1, 0);
        x.work(2);
        countsDue("behind a move out", x, 0, 4, 1, 0, 2, 1);
        x.work(2);
        countsDue("behind a move out without a load", x, 0, 4, 2, 0, 3, 1);
        x.plan(0);
        x.work(0);
        countsDue("behind a move of another bay", x, 0, 4, 3, 0, 4, 2);
    }

    private static void soFar() {
        CHECK.sentence("3: moves worked so far, 4: loads that went so far, of void plans too");
        MoveOrder x = ship();
        x.work(2);
        x.work(2);
        x.box(2, 0, 1);
        countsDue("the plan is void", x, 0, 5, 1, 0, 2, 1);
        x.plan(2);
        countsDue("planned again", x, 0, 5, 1, 0, 2, 1);
    }

    private static void loadsOfBays() {
        CHECK.sentence("from 10 on loads of bay what - 10");
        MoveOrder x = ship();
        countsDue("ahead", x, 10, 7, 0, 1);
        x.work(2);
        x.work(2);
        countsDue("one went", x, 10, 7, 0, 0);
    }

    private static void movesLeft() {
        CHECK.sentence("from 20 on moves left of the plan of bay what - 20");
        MoveOrder x = ship();
        x.plan(1);
        countsDue("none worked", x, 21, 0, 3);
        for (int left = 2; left >= 0; left--) {
            x.work(2);
            countsDue("left " + left, x, 21, 0, left);
        }
    }

    private static void withoutAPlan() {
        CHECK.sentence("moves left of the plan (NONE without)");
        MoveOrder x = ship();
        countsDue("never planned", x, 20, -1, -1, 3);
        x.work(2);
        x.before(0, 2);
        countsDue("void", x, 20, -1, -1, -1);
    }

    private static void anotherWhat() {
        CHECK.sentence("NONE for another what");
        MoveOrder x = ship();
        int[] given = {-1, -10, -20, 5, 6, 7, 8, 9, 30, 32, 64, 256, Integer.MIN_VALUE, Integer.MIN_VALUE + 9,
            Integer.MIN_VALUE + 10, Integer.MIN_VALUE + 20, Integer.MIN_VALUE + 22, Integer.MAX_VALUE};
        for (int what : given) {
            CHECK.due("count(" + what + ")", -1, x.count(what));
        }
    }

    private static void anotherBay() {
        CHECK.sentence("NONE for another bay");
        for (int bays = 1; bays <= 4; bays++) {
            MoveOrder x = new MoveOrder(bays, 1);
            for (int bay = 0; bay < bays; bay++) {
                x.plan(bay);
            }
            for (int bay = 0; bay < 10; bay++) {
                CHECK.due("loads of bay " + bay + " of " + bays, bay < bays ? 0 : -1, x.count(10 + bay));
                CHECK.due("left of bay " + bay + " of " + bays, bay < bays ? 0 : -1, x.count(20 + bay));
            }
        }
    }

    public static void main(String[] args) {
        inAll();
        soFar();
        loadsOfBays();
        movesLeft();
        withoutAPlan();
        anotherWhat();
        anotherBay();
        CHECK.end();
    }
}
