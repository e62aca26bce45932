/** A tree of named nodes and numbers, and steps from sets of nodes to other sets of nodes. */
public final class TreePaths {
    private static final int MOST_NODES = 48;
    private static final int ROOT = 0;
    private static final int NO_NODE = -1;
    private static final int REFUSED = -1;

    private static final int ITSELF = 0;
    private static final int CHILDREN = 1;
    private static final int PARENT = 2;
    private static final int BELOW = 3;
    private static final int ABOVE = 4;
    private static final int SIBLINGS_BEHIND = 5;
    private static final int SIBLINGS_BEFORE = 6;
    private static final int ALL_BEHIND = 7;
    private static final int ALL_BEFORE = 8;
    private static final int ITSELF_AND_BELOW = 9;
    private static final int ITSELF_AND_ABOVE = 10;
    private static final int LAST_AXIS = 10;

    private static final int NAME_MASK = 7;
    private static final int TEXTS = 8;
    private static final int ALL_ELEMENTS = 9;
    private static final int ALL_NODES = 10;
    private static final int LAST_TEST = 10;

    private static final int IN_COMMON = 0;
    private static final int TOGETHER = 1;
    private static final int WITHOUT = 2;

    // A set of nodes is a long whose bit n tells whether node n is in it: 48 nodes fit.
    private static final long EMPTY = 0L;
    private static final long ROOT_ALONE = 1L;

    // Only the open element gets new nodes, and nothing but what is below it stands behind it.
    // So a new node always gets the greatest number, and a parent always has a lesser number
    // than its children.
    private final int[] parents = new int[MOST_NODES];
    // An element's name, or TEXTS: the same numbers as the tests, so that they can be compared.
    private final int[] kinds = new int[MOST_NODES];
    private final int[] values = new int[MOST_NODES];
    private int count;
    private int openElement;

    private long set;
    private long kept0;
    private long kept1;

    public TreePaths() {
        parents[ROOT] = NO_NODE;
        count = 1;
        openElement = ROOT;
        forgetSets();
    }

    public int open(int name) {
        if (count >= MOST_NODES) {
            return REFUSED;
        }
        int added = count;
        append(name & NAME_MASK, 0);
        openElement = added;
        return count;
    }

    public int text(int value) {
        if (count >= MOST_NODES) {
            return REFUSED;
        }
        append(TEXTS, value);
        return count;
    }

    public int close() {
        if (openElement == ROOT) {
            return REFUSED;
        }
        openElement = parents[openElement];
        return 0;
    }

    public int remove(int node) {
        if (node <= ROOT || node >= count) {
            return REFUSED;
        }
        if (node == openElement || isBelow(openElement, node)) {
            return REFUSED;
        }
        int behind = firstBehind(node);
        moveDown(behind, behind - node);
        forgetSets();
        return count;
    }

    public void start() {
        set = ROOT_ALONE;
    }

    public int step(int axis, int test, int place) {
        if (!isAxisAndTest(axis, test) || place < -MOST_NODES || place > MOST_NODES) {
            return REFUSED;
        }
        long found = EMPTY;
        for (int from = 0; from < count; from++) {
            if (holds(set, from)) {
                long reached = reachedFrom(from, axis, test);
                found = found | atPlace(reached, axis, place);
            }
        }
        set = found;
        return size(set);
    }

    public int having(int axis, int test, boolean wanted) {
        if (!isAxisAndTest(axis, test)) {
            return REFUSED;
        }
        long left = EMPTY;
        for (int from = 0; from < count; from++) {
            if (holds(set, from)) {
                long reached = reachedFrom(from, axis, test);
                if ((reached != EMPTY) == wanted) {
                    left = left | only(from);
                }
            }
        }
        set = left;
        return size(set);
    }

    public int valued(int low, int high) {
        long matching = textsBetween(low, high);
        long left = EMPTY;
        for (int from = 0; from < count; from++) {
            if (holds(set, from)) {
                // Nothing is below a text, and an element is no text: one axis serves both.
                long texts = reachedFrom(from, ITSELF_AND_BELOW, TEXTS);
                if ((texts & matching) != EMPTY) {
                    left = left | only(from);
                }
            }
        }
        set = left;
        return size(set);
    }

    public void keep(int slot) {
        if ((slot & 1) == 0) {
            kept0 = set;
        } else {
            kept1 = set;
        }
    }

    public int mix(int slot, int kind) {
        long kept = (slot & 1) == 0 ? kept0 : kept1;
        switch (kind) {
            case IN_COMMON:
                set = set & kept;
                break;
            case TOGETHER:
                set = set | kept;
                break;
            case WITHOUT:
                set = set & ~kept;
                break;
            default:
                return REFUSED;
        }
        return size(set);
    }

    public int node(int index) {
        int lesser = 0;
        for (int number = 0; number < count; number++) {
            if (holds(set, number)) {
                if (lesser == index) {
                    return number;
                }
                lesser++;
            }
        }
        return NO_NODE;
    }

    public int sum() {
        int total = 0;
        for (int number = 0; number < count; number++) {
            if (holds(set, number) && kinds[number] == TEXTS) {
                total += values[number];
            }
        }
        return total;
    }

    private void forgetSets() {
        set = ROOT_ALONE;
        kept0 = EMPTY;
        kept1 = EMPTY;
    }

    private void append(int kind, int value) {
        parents[count] = openElement;
        kinds[count] = kind;
        values[count] = value;
        count++;
        forgetSets();
    }

    /** The first number behind the node that is not below it; the number of nodes if there is none. */
    private int firstBehind(int node) {
        for (int number = node + 1; number < count; number++) {
            if (!isBelow(number, node)) {
                return number;
            }
        }
        return count;
    }

    /** Lessens the numbers of the node first and of all behind it, over the nodes taken out. */
    private void moveDown(int first, int taken) {
        for (int number = first; number < count; number++) {
            int parent = parents[number];
            parents[number - taken] = parent >= first ? parent - taken : parent;
            kinds[number - taken] = kinds[number];
            values[number - taken] = values[number];
        }
        if (openElement >= first) {
            openElement -= taken;
        }
        count -= taken;
    }

    private boolean isBelow(int lower, int upper) {
        int at = lower;
        // Numbers fall on the way up, so a way that has come past upper can't meet it any more.
        for (int steps = 0; steps < MOST_NODES && at > upper; steps++) {
            at = parents[at];
        }
        return at == upper && lower != upper;
    }

    private static boolean isAxisAndTest(int axis, int test) {
        return axis >= 0 && axis <= LAST_AXIS && test >= 0 && test <= LAST_TEST;
    }

    private long reachedFrom(int from, int axis, int test) {
        long reached = EMPTY;
        for (int to = 0; to < count; to++) {
            if (passes(to, test) && leads(axis, from, to)) {
                reached = reached | only(to);
            }
        }
        return reached;
    }

    private boolean passes(int node, int test) {
        if (test == ALL_NODES) {
            return true;
        }
        if (test == ALL_ELEMENTS) {
            return kinds[node] != TEXTS;
        }
        return kinds[node] == test;
    }

    private boolean leads(int axis, int from, int to) {
        switch (axis) {
            case ITSELF:
                return to == from;
            case CHILDREN:
                return parents[to] == from;
            case PARENT:
                return parents[from] == to;
            case BELOW:
                return isBelow(to, from);
            case ABOVE:
                return isBelow(from, to);
            case SIBLINGS_BEHIND:
                return to > from && parents[to] == parents[from];
            case SIBLINGS_BEFORE:
                return to < from && parents[to] == parents[from];
            case ALL_BEHIND:
                return to > from && !isBelow(to, from);
            case ALL_BEFORE:
                return to < from && !isBelow(from, to);
            case ITSELF_AND_BELOW:
                return to == from || isBelow(to, from);
            case ITSELF_AND_ABOVE:
                return to == from || isBelow(from, to);
            default:
                return false;
        }
    }

    /** Whether the axis's order is the document order turned round; for all others it is that order. */
    private static boolean runsBackwards(int axis) {
        return axis == ABOVE || axis == SIBLINGS_BEFORE || axis == ALL_BEFORE || axis == ITSELF_AND_ABOVE;
    }

    private static long atPlace(long reached, int axis, int place) {
        if (place == 0) {
            return reached;
        }
        boolean backwards = runsBackwards(axis);
        if (place > 0) {
            return pick(reached, place, backwards);
        }
        // Counting from the axis's end is counting from 1 in the other direction.
        return pick(reached, -place, !backwards);
    }

    private static long pick(long nodes, int rank, boolean greatestFirst) {
        int seen = 0;
        for (int i = 0; i < MOST_NODES; i++) {
            int number = greatestFirst ? MOST_NODES - 1 - i : i;
            if (holds(nodes, number)) {
                seen++;
                if (seen == rank) {
                    return only(number);
                }
            }
        }
        return EMPTY;
    }

    private long textsBetween(int low, int high) {
        long texts = EMPTY;
        for (int number = 0; number < count; number++) {
            if (kinds[number] == TEXTS && values[number] >= low && values[number] <= high) {
                texts = texts | only(number);
            }
        }
        return texts;
    }

    private static long only(int node) {
        return 1L << node;
    }

    private static boolean holds(long nodes, int node) {
        return (nodes >>> node & 1L) != 0L;
    }

    private static int size(long nodes) {
        int held = 0;
        for (int number = 0; number < MOST_NODES; number++) {
            if (holds(nodes, number)) {
                held++;
            }
        }
        return held;
    }
}
