import java.lang.reflect.Array;
import java.lang.reflect.Field;

/**
 * Reaches into an object for what the document tells, but no run of calls under its limits brings about: boxes
 * that are ASIDE, stacks without room for a box that must be moved, and a bay without a plan.
 */
final class Inside {
    private Inside() {
    }

    private static Field field(Object owner, String name) throws ReflectiveOperationException {
        Field it = owner.getClass().getDeclaredField(name);
        it.setAccessible(true);
        return it;
    }

    private static Object part(Object owner, String name) {
        try {
            return field(owner, name).get(owner);
        } catch (ReflectiveOperationException e) {
            throw new IllegalStateException("no field " + name, e);
        }
    }

    private static void set(Object owner, String name, Object value) {
        try {
            field(owner, name).set(owner, value);
        } catch (ReflectiveOperationException e) {
            throw new IllegalStateException("no field " + name, e);
        }
    }

    /** Gives a bay a plan: moves of box, from and to. */
    static void setPlan(MoveOrder x, int bay, int[]... moves) {
        Object it = Array.get(part(x, "bays"), bay);
        set(it, "planned", true);
        set(it, "moves", moves.length);
        set(it, "worked", 0);
        String[] rows = {"movedBox", "from", "to"};
        for (int i = 0; i < moves.length; i++) {
            for (int row = 0; row < rows.length; row++) {
                Array.setInt(part(it, rows[row]), i, moves[i][row]);
            }
        }
    }

    /** Sets the top boxes of some stacks aside, by a plan that is given to the bay and worked. */
    static void setAside(MoveOrder x, int bay, int... boxes) {
        int[][] moves = new int[boxes.length][];
        for (int i = 0; i < boxes.length; i++) {
            moves[i] = new int[] {boxes[i], x.look(boxes[i], 2), 4};
        }
        setPlan(x, bay, moves);
        for (int i = 0; i < boxes.length; i++) {
            x.work(bay);
        }
    }

    /** A box is to go out before itself: there is no plan. */
    static void setRing(MoveOrder x, int box) {
        set(Array.get(part(x, "boxes"), box), "earlier", 1 << box);
    }

    /** Plans have less room from here on. */
    static void setPlanTiers(MoveOrder x, int tiers) {
        set(part(x, "search"), "tiers", tiers);
    }
}
