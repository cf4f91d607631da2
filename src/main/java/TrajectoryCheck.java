/**
 * Circuits whose nodes may have unknown values, followed for four moments,
 * and assertions with variables that are decided for all values of these at once.
 *
 * A set of assignments is held as a long, with bit a for assignment a: there are
 * just 64 of them, so that one pass over the circuit decides all.
 */
public final class TrajectoryCheck {
    public static final int BAD_ARG = -1;
    public static final int FULL = -2;
    public static final int NONE = -4;

    private static final int INPUT = 0;
    private static final int NOT = 1;
    private static final int AND = 2;
    private static final int OR = 3;
    private static final int XOR = 4;
    private static final int LATCH = 5;

    private static final int VALUE_X = 0;
    private static final int VALUE_0 = 1;
    private static final int VALUE_1 = 2;
    private static final int VALUE_T = 3;

    private static final int MAX_NODES = 20;
    private static final int MOMENTS = 4;
    private static final int PLACES = MOMENTS * MAX_NODES;
    private static final int MAX_ITEMS = 12;
    private static final int ITEM_SLOTS = 2 * MAX_ITEMS;
    private static final int VARIABLES = 6;
    private static final int ASSIGNMENTS = 64;
    private static final int LITERAL_0 = 12;
    private static final int LITERALS = 14;
    private static final int NO_ITEM = -1;
    private static final long NO_ASSIGNMENT = 0L;
    private static final long EVERY_ASSIGNMENT = -1L;

    private int nodeCount = 0;
    private final int[] kinds = new int[MAX_NODES];
    // A latch has the node that it is connected to as its first source.
    private final int[] firstSources = new int[MAX_NODES];
    private final int[] secondSources = new int[MAX_NODES];

    // Assumed items have the slots from 0 on, claimed ones those from MAX_ITEMS on.
    private int assumedCount = 0;
    private int claimedCount = 0;
    private final int[] itemPlaces = new int[ITEM_SLOTS];
    private final long[] itemDemands = new long[ITEM_SLOTS];
    private final long[] itemGuards = new long[ITEM_SLOTS];

    // By place, what the last follow found: the assignments in which the node may be 0, or 1.
    private final long[] mayBe0 = new long[PLACES];
    private final long[] mayBe1 = new long[PLACES];

    public TrajectoryCheck() {
    }

    public int node(int kind, int i, int j) {
        if (kind < INPUT || kind > LATCH) {
            return BAD_ARG;
        }
        boolean hasFirst = kind >= NOT && kind <= XOR;
        boolean hasSecond = kind >= AND && kind <= XOR;
        if (hasFirst && !isNode(i) || hasSecond && !isNode(j)) {
            return BAD_ARG;
        }
        if (nodeCount >= MAX_NODES) {
            return FULL;
        }
        int added = nodeCount;
        kinds[added] = kind;
        // What isn't used names the node itself, so that no stray argument is ever an index.
        firstSources[added] = hasFirst ? i : added;
        secondSources[added] = hasSecond ? j : added;
        nodeCount = added + 1;
        return added;
    }

    public int connect(int k, int i) {
        if (!isNode(i) || !isNode(k) || kinds[k] != LATCH) {
            return BAD_ARG;
        }
        int before = firstSources[k];
        firstSources[k] = i;
        return before;
    }

    public int item(int claimed, int t, int node, int demand, int guard) {
        if (!isMoment(t) || !isNode(node) || !isLiteral(demand) || !isLiteral(guard)) {
            return BAD_ARG;
        }
        int number = itemCount(claimed);
        if (number >= MAX_ITEMS) {
            return FULL;
        }
        int slot = firstSlot(claimed) + number;
        itemPlaces[slot] = placeOf(t, node);
        itemDemands[slot] = literalSet(demand);
        itemGuards[slot] = literalSet(guard);
        setItemCount(claimed, number + 1);
        return number;
    }

    public int drop(int claimed, int k) {
        int count = itemCount(claimed);
        if (k < 0 || k >= count) {
            return NONE;
        }
        int start = firstSlot(claimed);
        int last = start + count - 1;
        for (int slot = start + k; slot < last; slot++) {
            itemPlaces[slot] = itemPlaces[slot + 1];
            itemDemands[slot] = itemDemands[slot + 1];
            itemGuards[slot] = itemGuards[slot + 1];
        }
        setItemCount(claimed, count - 1);
        return count - 1;
    }

    public int nodes() {
        return nodeCount;
    }

    public int value(int t, int node, int assignment) {
        if (!isMoment(t) || !isNode(node) || assignment < 0 || assignment >= ASSIGNMENTS) {
            return BAD_ARG;
        }
        follow(NO_ITEM);
        int place = placeOf(t, node);
        boolean may0 = contains(mayBe0[place], assignment);
        boolean may1 = contains(mayBe1[place], assignment);
        if (may0) {
            return may1 ? VALUE_X : VALUE_0;
        }
        return may1 ? VALUE_1 : VALUE_T;
    }

    public int definite(int t, int node) {
        if (!isMoment(t) || !isNode(node)) {
            return BAD_ARG;
        }
        follow(NO_ITEM);
        int place = placeOf(t, node);
        return size(mayBe0[place] ^ mayBe1[place]);
    }

    public int needs(int t, int node) {
        if (!isMoment(t) || !isNode(node)) {
            return BAD_ARG;
        }
        follow(NO_ITEM);
        int place = placeOf(t, node);
        int needed = 0;
        for (int k = 0; k < VARIABLES; k++) {
            if (dependsOn(mayBe0[place], k) || dependsOn(mayBe1[place], k)) {
                needed |= 1 << k;
            }
        }
        return needed;
    }

    public int fails() {
        follow(NO_ITEM);
        long failing = failingSet();
        return size(failing);
    }

    public int idle() {
        follow(NO_ITEM);
        long idle = idleSet();
        return size(idle);
    }

    public int first() {
        follow(NO_ITEM);
        long failing = failingSet();
        for (int a = 0; a < ASSIGNMENTS; a++) {
            if (contains(failing, a)) {
                return a;
            }
        }
        return NONE;
    }

    public int failsOf(int k) {
        if (k < 0 || k >= claimedCount) {
            return NONE;
        }
        follow(NO_ITEM);
        long broken = brokenSet(MAX_ITEMS + k);
        long idle = idleSet();
        return size(broken & ~idle);
    }

    public int without(int k) {
        if (k < 0 || k >= assumedCount) {
            return NONE;
        }
        follow(k);
        long failingWithout = failingSet();
        follow(NO_ITEM);
        long failingWith = failingSet();
        return size(failingWithout) - size(failingWith);
    }

    public int cone(int node) {
        if (!isNode(node)) {
            return BAD_ARG;
        }
        int reached = 1 << node;
        // A way without a circle has fewer steps than there are nodes.
        for (int step = 1; step < nodeCount; step++) {
            reached = withSources(reached);
        }
        return reached;
    }

    private boolean isNode(int node) {
        return node >= 0 && node < nodeCount;
    }

    private static boolean isMoment(int t) {
        return t >= 0 && t < MOMENTS;
    }

    private static boolean isLiteral(int literal) {
        return literal >= 0 && literal < LITERALS;
    }

    private static int placeOf(int t, int node) {
        return t * MAX_NODES + node;
    }

    private static int firstSlot(int claimed) {
        return claimed == 0 ? 0 : MAX_ITEMS;
    }

    private int itemCount(int claimed) {
        return claimed == 0 ? assumedCount : claimedCount;
    }

    private void setItemCount(int claimed, int count) {
        if (claimed == 0) {
            assumedCount = count;
        } else {
            claimedCount = count;
        }
    }

    private static boolean contains(long set, int assignment) {
        return (set >>> assignment & 1L) != 0L;
    }

    private static int size(long set) {
        int count = 0;
        for (int a = 0; a < ASSIGNMENTS; a++) {
            if (contains(set, a)) {
                count++;
            }
        }
        return count;
    }

    /** The assignments in which the variable is 1. */
    private static long variableSet(int variable) {
        long set = NO_ASSIGNMENT;
        for (int a = 0; a < ASSIGNMENTS; a++) {
            if ((a >>> variable & 1) != 0) {
                set |= 1L << a;
            }
        }
        return set;
    }

    /** The assignments in which the literal is 1. */
    private static long literalSet(int literal) {
        if (literal < VARIABLES) {
            return variableSet(literal);
        }
        if (literal < LITERAL_0) {
            return ~variableSet(literal - VARIABLES);
        }
        return literal == LITERAL_0 ? NO_ASSIGNMENT : EVERY_ASSIGNMENT;
    }

    /** Whether the set holds just one of some two assignments that differ in the variable alone. */
    private static boolean dependsOn(long set, int variable) {
        // The shift brings each assignment with the variable at 1 onto its partner with it at 0.
        long partners = set >>> (1 << variable);
        return ((set ^ partners) & ~variableSet(variable)) != NO_ASSIGNMENT;
    }

    /** Finds all values at all moments, with assumed item leftOut taken away (NO_ITEM for none). */
    private void follow(int leftOut) {
        for (int t = 0; t < MOMENTS; t++) {
            for (int node = 0; node < nodeCount; node++) {
                setOwnValue(t, node);
                assume(t, node, leftOut);
            }
        }
    }

    private void setOwnValue(int t, int node) {
        int place = placeOf(t, node);
        if (kinds[node] == INPUT || kinds[node] == LATCH && t == 0) {
            mayBe0[place] = EVERY_ASSIGNMENT;
            mayBe1[place] = EVERY_ASSIGNMENT;
        } else if (kinds[node] == LATCH) {
            int source = placeOf(t - 1, firstSources[node]);
            mayBe0[place] = mayBe0[source];
            mayBe1[place] = mayBe1[source];
        } else {
            setGateValue(t, node);
        }
    }

    private void setGateValue(int t, int gate) {
        int place = placeOf(t, gate);
        int first = placeOf(t, firstSources[gate]);
        int second = placeOf(t, secondSources[gate]);
        switch (kinds[gate]) {
            case NOT:
                mayBe0[place] = mayBe1[first];
                mayBe1[place] = mayBe0[first];
                break;
            case AND:
                mayBe0[place] = mayBe0[first] | mayBe0[second];
                mayBe1[place] = mayBe1[first] & mayBe1[second];
                break;
            case OR:
                mayBe0[place] = mayBe0[first] & mayBe0[second];
                mayBe1[place] = mayBe1[first] | mayBe1[second];
                break;
            default:
                mayBe0[place] = mayBe0[first] & mayBe0[second] | mayBe1[first] & mayBe1[second];
                mayBe1[place] = mayBe1[first] & mayBe0[second] | mayBe0[first] & mayBe1[second];
                break;
        }
    }

    private void assume(int t, int node, int leftOut) {
        int place = placeOf(t, node);
        for (int k = 0; k < assumedCount; k++) {
            if (k != leftOut && itemPlaces[k] == place) {
                mayBe0[place] &= ~(itemGuards[k] & itemDemands[k]);
                mayBe1[place] &= ~(itemGuards[k] & ~itemDemands[k]);
            }
        }
    }

    private long idleSet() {
        long idle = NO_ASSIGNMENT;
        for (int t = 0; t < MOMENTS; t++) {
            for (int node = 0; node < nodeCount; node++) {
                int place = placeOf(t, node);
                idle |= ~(mayBe0[place] | mayBe1[place]);
            }
        }
        return idle;
    }

    /** The assignments, idle ones too, in which the item counts and its node may be the other one. */
    private long brokenSet(int slot) {
        int place = itemPlaces[slot];
        long demand = itemDemands[slot];
        return itemGuards[slot] & (demand & mayBe0[place] | ~demand & mayBe1[place]);
    }

    private long failingSet() {
        long broken = NO_ASSIGNMENT;
        for (int k = 0; k < claimedCount; k++) {
            broken |= brokenSet(MAX_ITEMS + k);
        }
        return broken & ~idleSet();
    }

    private int withSources(int reached) {
        int wider = reached;
        for (int node = 0; node < nodeCount; node++) {
            if ((reached >>> node & 1) != 0) {
                wider |= 1 << firstSources[node] | 1 << secondSources[node];
            }
        }
        return wider;
    }
}
