/**
 * Orders of moves in the bays of a ship: which boxes a crane moves, and where to, so that all boxes
 * that leave here go out with the fewest moves.
 */
public final class MoveOrder {
    public static final int NONE = -1;

    private static final int MOST_BAYS = 4;
    private static final int STACKS = 3;
    private static final int MOST_TIERS = 4;
    private static final int MOST_BOXES = 16;
    private static final int MOST_IN_BAY = 4;
    private static final int MOST_LOADS = 100;
    private static final int HERE = 0;
    private static final int LAST_PORT = 5;
    private static final int OUT = 3;
    private static final int ASIDE = 4;
    private static final int FROM_ASIDE = 3;
    private static final int COUNT_LOADS = 10;
    private static final int COUNT_LEFT = 20;

    // Four boxes set aside, each brought back and out: no bay ever needs more than these moves.
    private static final int MOST_MOVES = 3 * MOST_IN_BAY;

    private final int tiers;
    private final Bay[] bays;
    private final Box[] boxes = new Box[MOST_BOXES];
    private final Search search;
    private int boxesTold = 0;
    private int movesWorked = 0;
    private int loadsGone = 0;

    public MoveOrder(int bays, int tiers) {
        int held = Math.max(1, Math.min(MOST_BAYS, bays));
        this.tiers = Math.max(1, Math.min(MOST_TIERS, tiers));
        this.bays = new Bay[held];
        for (int i = 0; i < held; i++) {
            this.bays[i] = new Bay();
        }
        this.search = new Search(this.tiers);
    }

    public int box(int bay, int stack, int port) throws IllegalArgumentException, IllegalStateException {
        Bay home = bayAt(bay);
        if (home == null || stack < 0 || stack >= STACKS || port < HERE || port > LAST_PORT) {
            throw new IllegalArgumentException("no such bay, stack or port");
        }
        int height = heightOf(bay, stack);
        if (boxesTold >= MOST_BOXES || boxesIn(bay) >= MOST_IN_BAY || height >= tiers) {
            throw new IllegalStateException("no room for one more box");
        }
        int number = boxesTold;
        boxes[number] = new Box(port, bay, stack, height);
        boxesTold++;
        home.forgetPlan();
        return number;
    }

    public boolean before(int box, int other) {
        Box first = boxAt(box);
        Box second = boxAt(other);
        if (first == null || second == null || first.bay != second.bay) {
            return false;
        }
        if (!first.isToLeave() || !second.isToLeave()) {
            return false;
        }
        if (box == other || second.follows(box) || comesBefore(other, first)) {
            return false;
        }
        second.earlier |= 1 << box;
        forgetPlanOf(first.bay);
        return true;
    }

    public int plan(int bay) throws IllegalArgumentException {
        Bay it = bayAt(bay);
        if (it == null) {
            throw new IllegalArgumentException("no such bay");
        }
        search.clear();
        for (int i = 0; i < boxesTold; i++) {
            Box box = boxAt(i);
            if (box != null && box.isIn(bay)) {
                search.add(i, box);
            }
        }
        search.findPlan(it);
        return it.planned ? it.moves : NONE;
    }

    public int move(int bay, int i, int what) throws IndexOutOfBoundsException {
        Bay it = bayAt(bay);
        if (it == null || !it.hasMove(i) || what < 0 || what > 3) {
            throw new IndexOutOfBoundsException("no such bay, plan, move or what");
        }
        switch (what) {
            case 0:
                return it.movedBox[i];
            case 1:
                return it.from[i];
            case 2:
                return it.to[i];
            default:
                return i < it.worked ? 1 : 0;
        }
    }

    public int work(int bay) throws IllegalArgumentException, IllegalStateException {
        Bay it = bayAt(bay);
        if (it == null) {
            throw new IllegalArgumentException("no such bay");
        }
        int next = it.worked;
        Box box = it.hasMove(next) ? boxAt(it.movedBox[next]) : null;
        if (box == null) {
            throw new IllegalStateException("no plan, or no move left of it");
        }
        int to = it.to[next];
        box.tier = to < STACKS ? heightOf(bay, to) : NONE;
        box.stack = to;
        it.worked++;
        movesWorked++;
        if (to == OUT && it.waiting > 0) {
            it.waiting--;
            loadsGone++;
        }
        return it.movesLeft();
    }

    public int least(int bay) throws IllegalArgumentException {
        if (bayAt(bay) == null) {
            throw new IllegalArgumentException("no such bay");
        }
        int bound = 0;
        for (int i = 0; i < boxesTold; i++) {
            Box box = boxAt(i);
            if (box != null && box.isIn(bay) && (box.port == HERE || liesAboveLeaving(box))) {
                bound++;
            }
        }
        return bound;
    }

    public int loads(int bay, int n) throws IllegalArgumentException, IllegalStateException {
        Bay it = bayAt(bay);
        if (it == null || n < 1 || n > MOST_LOADS) {
            throw new IllegalArgumentException("no such bay, or not 1 to 100 loads");
        }
        if (it.waiting + n > MOST_LOADS) {
            throw new IllegalStateException("more than 100 loads would wait");
        }
        it.waiting += n;
        return it.waiting;
    }

    public int dual(int bay) throws IllegalArgumentException {
        Bay it = bayAt(bay);
        if (it == null) {
            throw new IllegalArgumentException("no such bay");
        }
        return it.planned ? Math.min(it.waiting, it.movesOutLeft()) : NONE;
    }

    public int swap(int box, int other) throws IllegalArgumentException {
        Box one = boxAt(box);
        Box two = boxAt(other);
        if (one == null || two == null) {
            throw new IllegalArgumentException("no such box");
        }
        if (box == other || one.port != two.port || !one.liesInStack() || !two.liesInStack()) {
            return 0;
        }
        if (hasNeeds(box, one) || hasNeeds(other, two)) {
            return 0;
        }
        forgetPlanOf(one.bay);
        forgetPlanOf(two.bay);
        one.changePlaces(two);
        return 1;
    }

    public int look(int box, int what) throws IndexOutOfBoundsException {
        Box it = boxAt(box);
        if (it == null || what < 0 || what > 3) {
            throw new IndexOutOfBoundsException("no such box or what");
        }
        switch (what) {
            case 0:
                return it.port;
            case 1:
                return it.bay;
            case 2:
                return it.stack;
            default:
                return it.tier;
        }
    }

    public int count(int what) {
        switch (what) {
            case 0:
                return boxesTold;
            case 1:
                return boxesAt(OUT);
            case 2:
                return boxesAt(ASIDE);
            case 3:
                return movesWorked;
            case 4:
                return loadsGone;
            default:
                return countOfBay(what);
        }
    }

    private int countOfBay(int what) {
        if (what >= COUNT_LEFT) {
            Bay it = bayAt(what - COUNT_LEFT);
            return it == null ? NONE : it.movesLeft();
        }
        if (what >= COUNT_LOADS) {
            Bay it = bayAt(what - COUNT_LOADS);
            return it == null ? NONE : it.waiting;
        }
        return NONE;
    }

    private Bay bayAt(int bay) {
        return bay >= 0 && bay < bays.length ? bays[bay] : null;
    }

    private Box boxAt(int box) {
        return box >= 0 && box < boxesTold && box < boxes.length ? boxes[box] : null;
    }

    private void forgetPlanOf(int bay) {
        Bay it = bayAt(bay);
        if (it != null) {
            it.forgetPlan();
        }
    }

    private int boxesIn(int bay) {
        int sum = 0;
        for (int i = 0; i < boxesTold; i++) {
            Box box = boxAt(i);
            if (box != null && box.isIn(bay)) {
                sum++;
            }
        }
        return sum;
    }

    /** How many boxes of all bays are OUT, or ASIDE. */
    private int boxesAt(int where) {
        int sum = 0;
        for (int i = 0; i < boxesTold; i++) {
            Box box = boxAt(i);
            if (box != null && box.stack == where) {
                sum++;
            }
        }
        return sum;
    }

    private int heightOf(int bay, int stack) {
        int height = 0;
        for (int i = 0; i < boxesTold; i++) {
            Box box = boxAt(i);
            if (box != null && box.bay == bay && box.stack == stack) {
                height++;
            }
        }
        return height;
    }

    private boolean liesAboveLeaving(Box upper) {
        if (!upper.liesInStack()) {
            return false;
        }
        for (int i = 0; i < boxesTold; i++) {
            Box box = boxAt(i);
            if (box != null && box.port == HERE && box.liesBelow(upper)) {
                return true;
            }
        }
        return false;
    }

    /** Whether a box is before another one by the needs told, through others too. */
    private boolean comesBefore(int box, Box last) {
        int known = last.earlier;
        // A chain of needs has fewer links than there are boxes.
        for (int round = 0; round < MOST_BOXES; round++) {
            for (int i = 0; i < boxesTold; i++) {
                Box link = boxAt(i);
                if (link != null && (known >> i & 1) != 0) {
                    known |= link.earlier;
                }
            }
        }
        return (known >> box & 1) != 0;
    }

    private boolean hasNeeds(int number, Box box) {
        if (box.earlier != 0) {
            return true;
        }
        for (int i = 0; i < boxesTold; i++) {
            Box later = boxAt(i);
            if (later != null && later.follows(number)) {
                return true;
            }
        }
        return false;
    }

    /** A box: its port and where it is. */
    private static final class Box {
        private final int port;
        private int bay;
        private int stack;
        private int tier;
        // Bit n: box n is to go out before this one.
        private int earlier = 0;

        private Box(int port, int bay, int stack, int tier) {
            this.port = port;
            this.bay = bay;
            this.stack = stack;
            this.tier = tier;
        }

        private boolean liesInStack() {
            return stack < STACKS;
        }

        private boolean isIn(int someBay) {
            return bay == someBay && stack != OUT;
        }

        private boolean isToLeave() {
            return port == HERE && stack != OUT;
        }

        private boolean follows(int box) {
            return (earlier >> box & 1) != 0;
        }

        private boolean liesBelow(Box upper) {
            return bay == upper.bay && stack == upper.stack && tier < upper.tier;
        }

        private void changePlaces(Box other) {
            int oldBay = bay;
            int oldStack = stack;
            int oldTier = tier;
            bay = other.bay;
            stack = other.stack;
            tier = other.tier;
            other.bay = oldBay;
            other.stack = oldStack;
            other.tier = oldTier;
        }
    }

    /** A bay: the loads that wait for it, and its plan. */
    private static final class Bay {
        private final int[] movedBox = new int[MOST_MOVES];
        private final int[] from = new int[MOST_MOVES];
        private final int[] to = new int[MOST_MOVES];
        private boolean planned = false;
        private int moves = 0;
        private int worked = 0;
        private int waiting = 0;

        private void forgetPlan() {
            planned = false;
            moves = 0;
            worked = 0;
        }

        private void startPlan(int length) {
            forgetPlan();
            planned = true;
            moves = length;
        }

        private void setMove(int i, int box, int source, int target) {
            if (hasMove(i)) {
                movedBox[i] = box;
                from[i] = source;
                to[i] = target;
            }
        }

        private boolean hasMove(int i) {
            return planned && i >= 0 && i < moves && i < MOST_MOVES;
        }

        private int movesLeft() {
            return planned ? moves - worked : NONE;
        }

        private int movesOutLeft() {
            int sum = 0;
            for (int i = worked; i < moves; i++) {
                if (hasMove(i) && to[i] == OUT) {
                    sum++;
                }
            }
            return sum;
        }
    }

    /**
     * Looks for the plan of one bay, breadth first. States are reached in the order of their first
     * shortest orders of moves, as moves are tried in the document's order: so the first state
     * reached that is an end tells the plan.
     *
     * A state has four bits for each box of the bay: stack * 4 + tier, or OUT, or ASIDE.
     */
    private static final class Search {
        // Four boxes in three stacks, OUT or ASIDE: with k in stacks, 4! / (4-k)! orders of these times
        // (k+1)(k+2)/2 ways to part them times what is in 4-k bits: 16 + 96 + 288 + 480 + 360.
        private static final int MOST_STATES = 1240;
        private static final int BITS = 4;
        private static final int PLACE_MASK = 15;
        private static final int OUT_PLACE = 12;
        private static final int ASIDE_PLACE = 13;
        private static final int SEEN_ROWS = 1024;

        private final int tiers;
        private final int[] numbers = new int[MOST_IN_BAY];
        private final int[] earlier = new int[MOST_IN_BAY];
        private final int[] heights = new int[STACKS];
        private final int[] tops = new int[STACKS];
        private final int[] states = new int[MOST_STATES];
        private final int[] parents = new int[MOST_STATES];
        // box * 64 + from * 8 + to
        private final int[] steps = new int[MOST_STATES];
        private final long[] seen = new long[SEEN_ROWS];
        private int size = 0;
        // Bit k: the k-th box of the bay leaves here.
        private int leaving = 0;
        private int start = 0;
        private int reached = 0;
        private int end = NONE;

        private Search(int tiers) {
            this.tiers = tiers;
        }

        private void clear() {
            size = 0;
            leaving = 0;
            start = 0;
        }

        /** Boxes are added in the order of their numbers: those that are aside are told by it. */
        private void add(int number, Box box) {
            if (size >= MOST_IN_BAY) {
                return;
            }
            int place = box.stack == ASIDE ? ASIDE_PLACE : box.stack * MOST_TIERS + box.tier;
            start |= (place & PLACE_MASK) << size * BITS;
            leaving |= (box.port == HERE ? 1 : 0) << size;
            numbers[size] = number;
            earlier[size] = box.earlier;
            size++;
        }

        private void findPlan(Bay bay) {
            reached = 0;
            end = NONE;
            reach(start, NONE, 0);
            for (int at = 0; at < MOST_STATES && at < reached && end == NONE; at++) {
                tryMoves(at);
            }
            if (end == NONE) {
                bay.forgetPlan();
            } else {
                tellPlan(bay);
            }
            forgetSeen();
        }

        private void tryMoves(int at) {
            int state = states[at];
            measureStacks(state);
            for (int from = 0; from < STACKS; from++) {
                if (tops[from] != NONE) {
                    tryTop(at, state, from);
                }
            }
            int fromAside = FROM_ASIDE;
            for (int k = 0; k < size; k++) {
                if (placeOf(state, k) == ASIDE_PLACE) {
                    tryStacks(at, state, k, fromAside);
                    fromAside++;
                }
            }
        }

        private void tryTop(int at, int state, int from) {
            int k = tops[from];
            tryStacks(at, state, k, from);
            if (mayGoOut(state, k)) {
                reach(withPlace(state, k, OUT_PLACE), at, stepOf(k, from, OUT));
            }
            reach(withPlace(state, k, ASIDE_PLACE), at, stepOf(k, from, ASIDE));
        }

        private void tryStacks(int at, int state, int k, int from) {
            for (int to = 0; to < STACKS; to++) {
                if (to != from && heights[to] < tiers) {
                    int place = to * MOST_TIERS + heights[to];
                    reach(withPlace(state, k, place), at, stepOf(k, from, to));
                }
            }
        }

        private void reach(int state, int parent, int step) {
            int row = state >> 6 & SEEN_ROWS - 1;
            long bit = 1L << (state & 63);
            if (end != NONE || reached >= MOST_STATES || (seen[row] & bit) != 0) {
                return;
            }
            seen[row] |= bit;
            states[reached] = state;
            parents[reached] = parent;
            steps[reached] = step;
            if (isEnd(state)) {
                end = reached;
            }
            reached++;
        }

        private boolean isEnd(int state) {
            for (int k = 0; k < size; k++) {
                int place = state >> k * BITS & PLACE_MASK;
                boolean leaves = (leaving >> k & 1) != 0;
                if (place == ASIDE_PLACE || leaves && place != OUT_PLACE) {
                    return false;
                }
            }
            return true;
        }

        private boolean mayGoOut(int state, int k) {
            if (k < 0 || k >= size || (leaving >> k & 1) == 0) {
                return false;
            }
            for (int j = 0; j < size; j++) {
                if ((earlier[k] >> numbers[j] & 1) != 0 && placeOf(state, j) != OUT_PLACE) {
                    return false;
                }
            }
            return true;
        }

        private void measureStacks(int state) {
            for (int stack = 0; stack < STACKS; stack++) {
                heights[stack] = 0;
                tops[stack] = NONE;
            }
            for (int k = 0; k < size; k++) {
                int place = placeOf(state, k);
                int stack = place / MOST_TIERS;
                int tier = place % MOST_TIERS;
                if (stack < STACKS && tier >= heights[stack]) {
                    heights[stack] = tier + 1;
                    tops[stack] = k;
                }
            }
        }

        private void tellPlan(Bay bay) {
            int length = 0;
            for (int at = end; at > 0 && at < MOST_STATES && length < MOST_MOVES; at = parents[at]) {
                length++;
            }
            bay.startPlan(length);
            int at = end;
            for (int i = length - 1; i >= 0 && at > 0 && at < MOST_STATES; i--) {
                int step = steps[at];
                bay.setMove(i, numbers[step >> 6 & MOST_IN_BAY - 1], step >> 3 & 7, step & 7);
                at = parents[at];
            }
        }

        /** Only the rows that were used are cleared, which spares going through all of them. */
        private void forgetSeen() {
            for (int at = 0; at < MOST_STATES && at < reached; at++) {
                seen[states[at] >> 6 & SEEN_ROWS - 1] = 0L;
            }
        }

        private static int placeOf(int state, int k) {
            return state >> k * BITS & PLACE_MASK;
        }

        private static int withPlace(int state, int k, int place) {
            int shift = k * BITS;
            return state & ~(PLACE_MASK << shift) | place << shift;
        }

        private static int stepOf(int k, int from, int to) {
            return k << 6 | from << 3 | to;
        }
    }
}
