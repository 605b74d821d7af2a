import java.util.ArrayList;
import java.util.HashSet;
import java.util.List;
import java.util.Set;
import java.util.TreeSet;

/**
 * The document once more, with lists in place of rows, and plans found by depth first search with a
 * growing limit: the first order that is found under the least limit is the plan.
 */
final class Model {
    static final int OUT = 3;
    static final int ASIDE = 4;

    static final class Bay {
        final List<List<Integer>> stacks = List.of(new ArrayList<>(), new ArrayList<>(), new ArrayList<>());
        final TreeSet<Integer> aside = new TreeSet<>();
        List<int[]> plan = null;
        int worked = 0;
        int loads = 0;

        int lying() {
            return aside.size() + stacks.get(0).size() + stacks.get(1).size() + stacks.get(2).size();
        }
    }

    private final int tiers;
    private final List<Bay> bays = new ArrayList<>();
    private final List<Integer> ports = new ArrayList<>();
    private final List<Integer> lastBay = new ArrayList<>();
    private final Set<Integer> out = new HashSet<>();
    private final Set<List<Integer>> needs = new HashSet<>();
    private int worked = 0;
    private int loaded = 0;

    Model(int bays, int tiers) {
        this.tiers = tiers < 1 ? 1 : tiers > 4 ? 4 : tiers;
        for (int i = 0; i < (bays < 1 ? 1 : bays > 4 ? 4 : bays); i++) {
            this.bays.add(new Bay());
        }
    }

    private boolean noBay(int bay) {
        return bay < 0 || bay >= bays.size();
    }

    private boolean noBox(int box) {
        return box < 0 || box >= ports.size();
    }

    long box(int bay, int stack, int port) {
        if (noBay(bay) || stack < 0 || stack > 2 || port < 0 || port > 5) {
            throw new IllegalArgumentException();
        }
        Bay b = bays.get(bay);
        if (ports.size() == 16 || b.lying() == 4 || b.stacks.get(stack).size() == tiers) {
            throw new IllegalStateException();
        }
        b.stacks.get(stack).add(ports.size());
        b.plan = null;
        ports.add(port);
        lastBay.add(bay);
        return ports.size() - 1;
    }

    private boolean leads(int box, int other) {
        if (box == other) {
            return true;
        }
        for (List<Integer> need : needs) {
            if (need.get(0) == box && leads(need.get(1), other)) {
                return true;
            }
        }
        return false;
    }

    long before(int box, int other) {
        if (noBox(box) || noBox(other) || !lastBay.get(box).equals(lastBay.get(other))
            || out.contains(box) || out.contains(other) || ports.get(box) != 0 || ports.get(other) != 0
            || leads(other, box) || !needs.add(List.of(box, other))) {
            return 0;
        }
        bays.get(lastBay.get(box)).plan = null;
        return 1;
    }

    long plan(int bay) {
        if (noBay(bay)) {
            throw new IllegalArgumentException();
        }
        Bay b = bays.get(bay);
        b.worked = 0;
        // Twelve moves are enough for four boxes: all aside, back one by one, and out.
        for (int limit = 0; limit <= 12; limit++) {
            b.plan = new ArrayList<>();
            if (search(b, limit)) {
                undo(b, b.plan);
                return b.plan.size();
            }
        }
        b.plan = null;
        return -1;
    }

    private int toDo(Bay b) {
        int sum = 2 * b.aside.size();
        for (int box : b.aside) {
            sum -= ports.get(box) == 0 ? 0 : 1;
        }
        return sum + bound(b);
    }

    private int bound(Bay b) {
        int sum = 0;
        for (List<Integer> stack : b.stacks) {
            boolean above = false;
            for (int box : stack) {
                above |= ports.get(box) == 0;
                sum += above ? 1 : 0;
            }
        }
        return sum;
    }

    /** Leaves the boxes where the last move brings them if an order was found. */
    private boolean search(Bay b, int limit) {
        int least = toDo(b);
        if (least == 0 || least > limit) {
            return least == 0 && limit == 0;
        }
        List<Integer> asideNow = new ArrayList<>(b.aside);
        for (int from = 0; from < 3 + asideNow.size(); from++) {
            if (from < 3 && b.stacks.get(from).isEmpty()) {
                continue;
            }
            int box = from < 3 ? b.stacks.get(from).get(b.stacks.get(from).size() - 1) : asideNow.get(from - 3);
            for (int to = 0; to <= 4; to++) {
                int[] move = {box, from, to};
                if (!allowed(b, move)) {
                    continue;
                }
                b.plan.add(move);
                carry(b, move);
                if (search(b, limit - 1)) {
                    return true;
                }
                undo(b, List.of(move));
                b.plan.remove(b.plan.size() - 1);
            }
        }
        return false;
    }

    private boolean allowed(Bay b, int[] move) {
        if (move[2] < 3) {
            return move[1] != move[2] && b.stacks.get(move[2]).size() < tiers;
        }
        if (move[2] == ASIDE || move[1] >= 3) {
            return move[1] < 3;
        }
        for (List<Integer> need : needs) {
            if (need.get(1) == move[0] && !out.contains(need.get(0))) {
                return false;
            }
        }
        return ports.get(move[0]) == 0;
    }

    private void carry(Bay b, int[] move) {
        shift(b, move[0], move[1] < 3 ? move[1] : ASIDE, move[2]);
    }

    private void undo(Bay b, List<int[]> moves) {
        for (int i = moves.size() - 1; i >= 0; i--) {
            int[] move = moves.get(i);
            shift(b, move[0], move[2], move[1] < 3 ? move[1] : ASIDE);
        }
    }

    private void shift(Bay b, int box, int from, int to) {
        if (from < 3) {
            b.stacks.get(from).remove(b.stacks.get(from).size() - 1);
        } else {
            (from == OUT ? out : b.aside).remove(box);
        }
        if (to < 3) {
            b.stacks.get(to).add(box);
        } else {
            (to == OUT ? out : b.aside).add(box);
        }
    }

    long move(int bay, int i, int what) {
        if (noBay(bay) || bays.get(bay).plan == null || i < 0 || i >= bays.get(bay).plan.size()
            || what < 0 || what > 3) {
            throw new IndexOutOfBoundsException();
        }
        Bay b = bays.get(bay);
        return what < 3 ? b.plan.get(i)[what] : i < b.worked ? 1 : 0;
    }

    long work(int bay) {
        if (noBay(bay)) {
            throw new IllegalArgumentException();
        }
        Bay b = bays.get(bay);
        if (b.plan == null || b.worked == b.plan.size()) {
            throw new IllegalStateException();
        }
        int[] move = b.plan.get(b.worked);
        carry(b, move);
        b.worked++;
        worked++;
        if (move[2] == OUT && b.loads > 0) {
            b.loads--;
            loaded++;
        }
        return b.plan.size() - b.worked;
    }

    long least(int bay) {
        if (noBay(bay)) {
            throw new IllegalArgumentException();
        }
        Bay b = bays.get(bay);
        int sum = bound(b);
        for (int box : b.aside) {
            sum += ports.get(box) == 0 ? 1 : 0;
        }
        return sum;
    }

    long loads(int bay, int n) {
        if (noBay(bay) || n < 1 || n > 100) {
            throw new IllegalArgumentException();
        }
        if (bays.get(bay).loads > 100 - n) {
            throw new IllegalStateException();
        }
        return bays.get(bay).loads += n;
    }

    long dual(int bay) {
        if (noBay(bay)) {
            throw new IllegalArgumentException();
        }
        Bay b = bays.get(bay);
        if (b.plan == null) {
            return -1;
        }
        int joined = 0;
        for (int[] move : b.plan.subList(b.worked, b.plan.size())) {
            joined += move[2] == OUT && joined < b.loads ? 1 : 0;
        }
        return joined;
    }

    private List<Integer> stackOf(int box) {
        for (List<Integer> stack : bays.get(lastBay.get(box)).stacks) {
            if (stack.contains(box)) {
                return stack;
            }
        }
        return null;
    }

    long swap(int box, int other) {
        if (noBox(box) || noBox(other)) {
            throw new IllegalArgumentException();
        }
        for (List<Integer> need : needs) {
            if (need.contains(box) || need.contains(other)) {
                return 0;
            }
        }
        List<Integer> one = stackOf(box);
        List<Integer> two = stackOf(other);
        if (box == other || !ports.get(box).equals(ports.get(other)) || one == null || two == null) {
            return 0;
        }
        int i = one.indexOf(box);
        int j = two.indexOf(other);
        one.set(i, other);
        two.set(j, box);
        bays.get(lastBay.get(box)).plan = null;
        bays.get(lastBay.get(other)).plan = null;
        lastBay.set(box, lastBay.set(other, lastBay.get(box)));
        return 1;
    }

    long look(int box, int what) {
        if (noBox(box) || what < 0 || what > 3) {
            throw new IndexOutOfBoundsException();
        }
        List<Integer> stack = stackOf(box);
        switch (what) {
            case 0:
                return ports.get(box);
            case 1:
                return lastBay.get(box);
            case 2:
                if (stack != null) {
                    List<List<Integer>> stacks = bays.get(lastBay.get(box)).stacks;
                    return stacks.get(0) == stack ? 0 : stacks.get(1) == stack ? 1 : 2;
                }
                return out.contains(box) ? OUT : ASIDE;
            default:
                return stack == null ? -1 : stack.indexOf(box);
        }
    }

    long count(int what) {
        if (what >= 20 && what < 20 + bays.size()) {
            Bay b = bays.get(what - 20);
            return b.plan == null ? -1 : b.plan.size() - b.worked;
        }
        if (what >= 10 && what < 10 + bays.size()) {
            return bays.get(what - 10).loads;
        }
        switch (what) {
            case 0:
                return ports.size();
            case 1:
                return out.size();
            case 2:
                return bays.stream().mapToInt(b -> b.aside.size()).sum();
            case 3:
                return worked;
            case 4:
                return loaded;
            default:
                return -1;
        }
    }
}
