import java.util.function.IntUnaryOperator;
import java.util.function.ToIntFunction;

/** For each sentence of the document that names a boundary case a test of its own. */
public final class BoundaryTest {
    private static final int BAD_ARG = -1;
    private static final int FULL = -2;
    private static final int NONE = -4;

    private static final int INPUT = 0;
    private static final int NOT = 1;
    private static final int AND = 2;
    private static final int XOR = 4;
    private static final int LATCH = 5;

    private static final int ASSUMED = 0;
    private static final int CLAIMED = 1;

    private static final int X = 0;
    private static final int V0 = 1;
    private static final int V1 = 2;
    private static final int T = 3;

    private static final int ZERO = 12;
    private static final int ONE = 13;
    private static final int ALWAYS = 13;
    private static final int NEVER = 12;

    private static final int LEAST = Integer.MIN_VALUE;
    private static final int GREATEST = Integer.MAX_VALUE;

    // Every int but 0 is for claimed; the lower bits alone don't tell.
    private static final int[] FOR_CLAIMED = {1, -1, 2, 256, 1 << 16, LEAST, GREATEST};

    public static void main(String[] args) {
        calls();
        terms();
        promise1();
        promises2And3();
        promises4And5();
        promises6To9();
        promises10To12();
        promises13To15();
        Due.end();
    }

    private static void due(String call, long got, long want) {
        Due.due(call, got, want);
    }

    private static int not(int variable) {
        return variable + 6;
    }

    private static TrajectoryCheck withInputs(int count) {
        TrajectoryCheck x = new TrajectoryCheck();
        for (int n = 0; n < count; n++) {
            x.node(INPUT, 0, 0);
        }
        return x;
    }

    private static TrajectoryCheck withItems(int claimed, int count) {
        TrajectoryCheck x = withInputs(1);
        for (int k = 0; k < count; k++) {
            x.item(claimed, 0, 0, ONE, NEVER);
        }
        return x;
    }

    /** One argument of a call is tried at both ends of its range and of int; the rest of the call is in range. */
    private static void range(String argument, int low, int high, int code, IntUnaryOperator call) {
        due(argument + ": the last below", call.applyAsInt(low - 1), code);
        due(argument + ": the first above", call.applyAsInt(high + 1), code);
        due(argument + ": the least int", call.applyAsInt(LEAST), code);
        due(argument + ": the greatest int", call.applyAsInt(GREATEST), code);
        if (low <= high) {
            due(argument + ": the first is taken", call.applyAsInt(low) >= 0 ? 1 : 0, 1);
            due(argument + ": the last is taken", call.applyAsInt(high) >= 0 ? 1 : 0, 1);
        }
    }

    // ---- What it is

    private static void calls() {
        lastCallOf512();
        changesIn512Calls();
        callsAfterThe512th();
    }

    /** "An object is used for at most 512 calls after it has been made": the 512th still has its answer. */
    private static void lastCallOf512() {
        call512("node", x -> x.node(LATCH, 0, 0), 2);
        call512("node refused", x -> x.node(6, 0, 0), BAD_ARG);
        call512("connect", x -> x.connect(1, 0), 1);
        call512("item, assumed", x -> x.item(ASSUMED, 3, 1, 0, 0), 1);
        call512("item, claimed", x -> x.item(CLAIMED, 3, 1, 0, 0), 1);
        call512("drop, assumed", x -> x.drop(ASSUMED, 0), 0);
        call512("drop, claimed", x -> x.drop(CLAIMED, 0), 0);
        call512("nodes", TrajectoryCheck::nodes, 2);
        call512("value", x -> x.value(0, 0, 63), V1);
        call512("definite", x -> x.definite(0, 0), 64);
        call512("needs", x -> x.needs(0, 0), 0);
        call512("fails", TrajectoryCheck::fails, 32);
        call512("idle", TrajectoryCheck::idle, 0);
        call512("first", TrajectoryCheck::first, 1);
        call512("failsOf", x -> x.failsOf(0), 32);
        call512("without", x -> x.without(0), 0);
        call512("cone", x -> x.cone(1), 2);
    }

    private static void call512(String name, ToIntFunction<TrajectoryCheck> call, int want) {
        TrajectoryCheck x = new TrajectoryCheck();
        x.node(INPUT, 0, 0);
        x.node(LATCH, 0, 0);
        x.item(ASSUMED, 0, 0, ONE, ALWAYS);
        x.item(CLAIMED, 1, 0, ONE, 0);
        for (int made = 4; made < 511; made++) {
            x.nodes();
        }
        due("call 512: " + name, call.applyAsInt(x), want);
    }

    /** All 512 calls may be changes: what is taken away leaves no trace. */
    private static void changesIn512Calls() {
        TrajectoryCheck x = withInputs(1);
        for (int n = 0; n < 127; n++) {
            due("changes: item, assumed", x.item(ASSUMED, 0, 0, n % 2 == 0 ? ONE : ZERO, ALWAYS), 0);
            due("changes: item, claimed", x.item(CLAIMED, 0, 0, n % 2 == 0 ? ZERO : ONE, ALWAYS), 0);
            due("changes: drop, assumed", x.drop(ASSUMED, 0), 0);
            due("changes: drop, claimed", x.drop(CLAIMED, 0), 0);
        }
        due("changes: value", x.value(0, 0, 0), X);
        due("changes: idle", x.idle(), 0);
        due("changes: fails", x.fails(), 0);
    }

    /** "what later calls answer is free", but "No call ever throws". */
    private static void callsAfterThe512th() {
        TrajectoryCheck x = new TrajectoryCheck();
        int[] numbers = {0, 3, 19, 12, -1, 64, LEAST, GREATEST};
        for (int n = 0; n < 2000; n++) {
            int a = numbers[n % 8];
            int b = numbers[n / 8 % 8];
            x.node(n % 6, a, b);
            x.connect(a, b);
            x.item(n % 2, a, b, n % 14, n % 13);
            x.drop(n % 2, a);
            x.value(a, b, n % 64);
            x.definite(a, b);
            x.needs(a, b);
            x.fails();
            x.first();
            x.failsOf(a);
            x.without(a);
            x.cone(b);
        }
    }

    // ---- Terms

    private static void terms() {
        termTwentyNodes();
        termSmallerNumbers();
        termConnectedToAnyNode();
        termLiterals();
        termLatchAtMoments();
        termDemandAtOutermostPlaces();
        termIdleAtOnePlace();
        termIdleDoesNotFail();
        termAllItemsCount();
    }

    /** "A CIRCUIT has up to 20 NODES, numbered from 0 on in the order in which they are added". */
    private static void termTwentyNodes() {
        for (int kind = INPUT; kind <= LATCH; kind++) {
            TrajectoryCheck x = withInputs(1);
            for (int number = 1; number < 20; number++) {
                due("twenty nodes: kind " + kind, x.node(kind, number - 1, 0), number);
            }
            due("twenty nodes: one more of kind " + kind, x.node(kind, 19, 0), FULL);
        }
    }

    /** "GATES ... of nodes i and j with smaller numbers": the next smaller one is, its own is not. */
    private static void termSmallerNumbers() {
        for (int own = 0; own < 20; own++) {
            for (int kind = NOT; kind <= XOR; kind++) {
                due("smaller numbers: its own as i", withInputs(own).node(kind, own, 0), BAD_ARG);
                due("smaller numbers: the next smaller as i", withInputs(own).node(kind, own - 1, 0), own == 0 ? BAD_ARG : own);
            }
            for (int kind = AND; kind <= XOR; kind++) {
                due("smaller numbers: its own as j", withInputs(own).node(kind, 0, own), BAD_ARG);
                due("smaller numbers: the next smaller as j", withInputs(own).node(kind, 0, own - 1), own == 0 ? BAD_ARG : own);
            }
        }
    }

    /** "LATCHES, each of which is connected to a node (any one, at first to itself)". */
    private static void termConnectedToAnyNode() {
        for (int latch = 0; latch < 20; latch += 19) {
            TrajectoryCheck x = withLatches(20);
            due("connected: at first to itself", x.connect(latch, 0), latch);
            for (int node = 1; node < 20; node++) {
                due("connected: to any one", x.connect(latch, node), node - 1);
            }
            due("connected: to itself again", x.connect(latch, latch), 19);
        }
    }

    private static TrajectoryCheck withLatches(int count) {
        TrajectoryCheck x = new TrajectoryCheck();
        for (int n = 0; n < count; n++) {
            x.node(LATCH, 0, 0);
        }
        return x;
    }

    /** "0 to 5 for a variable ...; 6 to 11 for variable 0 to 5 turned round; 12 for 0; 13 for 1". */
    private static void termLiterals() {
        // By literal, what it is in assignments 0, 1, 31, 32, 62 and 63.
        literal(0, V0, V1, V1, V0, V0, V1);
        literal(1, V0, V0, V1, V0, V1, V1);
        literal(5, V0, V0, V0, V1, V1, V1);
        literal(6, V1, V0, V0, V1, V1, V0);
        literal(7, V1, V1, V0, V1, V0, V0);
        literal(11, V1, V1, V1, V0, V0, V0);
        literal(12, V0, V0, V0, V0, V0, V0);
        literal(13, V1, V1, V1, V1, V1, V1);
    }

    private static void literal(int literal, int... wanted) {
        int[] assignments = {0, 1, 31, 32, 62, 63};
        TrajectoryCheck x = withInputs(1);
        x.item(ASSUMED, 0, 0, literal, ALWAYS);
        x.item(ASSUMED, 1, 0, ONE, literal);
        for (int n = 0; n < assignments.length; n++) {
            String where = " " + literal + " in assignment " + assignments[n];
            due("literals: demand" + where, x.value(0, 0, assignments[n]), wanted[n]);
            due("literals: guard" + where, x.value(1, 0, assignments[n]), wanted[n] == V1 ? V1 : X);
        }
    }

    /** "for a latch X at moment 0, else the value of the node that it is connected to at the moment before". */
    private static void termLatchAtMoments() {
        for (int known = 0; known <= 3; known++) {
            TrajectoryCheck x = withInputs(1);
            x.node(LATCH, 0, 0);
            x.connect(1, 0);
            x.item(ASSUMED, known, 0, ONE, ALWAYS);
            for (int t = 0; t <= 3; t++) {
                due("latch at " + t + ", its node known at " + known, x.value(t, 1, 0), t == known + 1 ? V1 : X);
            }
        }
    }

    /** Only the one node at the one moment is demanded, at the first and last moments and nodes too. */
    private static void termDemandAtOutermostPlaces() {
        for (int place = 0; place < 80; place++) {
            TrajectoryCheck x = withInputs(20);
            x.item(ASSUMED, place / 20, place % 20, ZERO, ALWAYS);
            for (int other = 0; other < 80; other++) {
                String where = "demanded at place " + place + ", asked at " + other;
                due(where, x.value(other / 20, other % 20, 63), other == place ? V0 : X);
            }
        }
    }

    /** "An assignment is IDLE if some node has the value T at some moment": one is enough, whichever. */
    private static void termIdleAtOnePlace() {
        for (int place = 0; place < 80; place++) {
            TrajectoryCheck x = withInputs(20);
            x.item(ASSUMED, place / 20, place % 20, ONE, 5);
            due("idle at one place: not yet", x.idle(), 0);
            x.item(ASSUMED, place / 20, place % 20, ZERO, 5);
            due("idle at place " + place, x.idle(), 32);
        }
    }

    /** "If not, it FAILS ...": an idle one neither fails nor is it the first that does. */
    private static void termIdleDoesNotFail() {
        TrajectoryCheck x = withInputs(20);
        x.item(CLAIMED, 0, 0, ONE, ALWAYS);
        due("idle doesn't fail: none is idle", x.fails(), 64);
        x.item(ASSUMED, 3, 19, ONE, not(5));
        x.item(ASSUMED, 3, 19, ZERO, not(5));
        due("idle doesn't fail: half are idle", x.fails(), 32);
        due("idle doesn't fail: the first", x.first(), 32);
        due("idle doesn't fail: by the item", x.failsOf(0), 32);
    }

    /** "There are up to 12 items that are ASSUMED, and up to 12 that are CLAIMED": the last of each counts as the first. */
    private static void termAllItemsCount() {
        for (int counting = 0; counting < 12; counting++) {
            TrajectoryCheck x = withInputs(1);
            for (int k = 0; k < 12; k++) {
                x.item(ASSUMED, 1, 0, ONE, k == counting ? 1 : NEVER);
                x.item(CLAIMED, 2, 0, ONE, k == counting ? 2 : NEVER);
            }
            due("all items count: assumed item " + counting, x.definite(1, 0), 32);
            due("all items count: claimed item " + counting, x.fails(), 32);
            due("all items count: failsOf of it", x.failsOf(counting), 32);
        }
    }

    // ---- Promise 1

    private static void promise1() {
        newObjectTakesNoGate();
        newObjectTakesAnInputOrALatch();
        newObjectHasNoNodeToAskFor();
        newObjectHasNoItems();
    }

    /** "No nodes": so no gate can be added, and nothing has been after all was tried. */
    private static void newObjectTakesNoGate() {
        TrajectoryCheck x = new TrajectoryCheck();
        for (int i : new int[] {LEAST, -1, 0, 1, 19, 20, GREATEST}) {
            for (int kind = NOT; kind <= XOR; kind++) {
                due("new: a gate", x.node(kind, i, 0), BAD_ARG);
                due("new: a gate", x.node(kind, 0, i), BAD_ARG);
            }
            due("new: a kind that isn't", x.node(-1, i, i), BAD_ARG);
            due("new: a kind that isn't", x.node(6, i, i), BAD_ARG);
        }
        due("new: nodes()", x.nodes(), 0);
        due("new: the first number", x.node(INPUT, 0, 0), 0);
    }

    private static void newObjectTakesAnInputOrALatch() {
        due("new: an input", new TrajectoryCheck().node(INPUT, 0, 0), 0);
        due("new: a latch", new TrajectoryCheck().node(LATCH, 0, 0), 0);
        due("new: an input of no nodes", new TrajectoryCheck().node(INPUT, LEAST, GREATEST), 0);
        due("new: a latch of no nodes", new TrajectoryCheck().node(LATCH, LEAST, GREATEST), 0);
    }

    private static void newObjectHasNoNodeToAskFor() {
        TrajectoryCheck x = new TrajectoryCheck();
        due("new: nodes()", x.nodes(), 0);
        for (int node : new int[] {LEAST, -1, 0, 1, 19, 20, GREATEST}) {
            due("new: connect", x.connect(node, 0), BAD_ARG);
            due("new: connect", x.connect(0, node), BAD_ARG);
            due("new: item, assumed", x.item(ASSUMED, 0, node, 0, 0), BAD_ARG);
            due("new: item, claimed", x.item(CLAIMED, 3, node, 13, 13), BAD_ARG);
            due("new: value", x.value(0, node, 0), BAD_ARG);
            due("new: value", x.value(3, node, 63), BAD_ARG);
            due("new: definite", x.definite(0, node), BAD_ARG);
            due("new: definite", x.definite(3, node), BAD_ARG);
            due("new: needs", x.needs(0, node), BAD_ARG);
            due("new: needs", x.needs(3, node), BAD_ARG);
            due("new: cone", x.cone(node), BAD_ARG);
        }
    }

    /** "no items": nothing to take away, and nothing that fails or is idle. */
    private static void newObjectHasNoItems() {
        TrajectoryCheck x = new TrajectoryCheck();
        for (int k : new int[] {LEAST, -1, 0, 1, 11, 12, GREATEST}) {
            due("new: drop, assumed", x.drop(ASSUMED, k), NONE);
            due("new: drop, claimed", x.drop(CLAIMED, k), NONE);
            due("new: failsOf", x.failsOf(k), NONE);
            due("new: without", x.without(k), NONE);
        }
        due("new: fails()", x.fails(), 0);
        due("new: idle()", x.idle(), 0);
        due("new: first()", x.first(), NONE);
        x.node(INPUT, 0, 0);
        due("new: the first number, assumed", x.item(ASSUMED, 0, 0, 0, 0), 0);
        due("new: the first number, claimed", x.item(CLAIMED, 0, 0, 0, 0), 0);
    }

    // ---- Promises 2 and 3

    private static void promises2And3() {
        nodeKind();
        nodeSources();
        nodeArgumentsThatAreNotUsed();
        nodeFullAfterBadArg();
        connectNodeI();
        connectLatchK();
        connectInTheFullCircuit();
    }

    /** "kind not 0 to 5 ... answers BAD_ARG". */
    private static void nodeKind() {
        range("node: kind", 0, 5, BAD_ARG, kind -> withInputs(1).node(kind, 0, 0));
        range("node: kind, 19 nodes", 0, 5, BAD_ARG, kind -> withInputs(19).node(kind, 18, 18));
    }

    /** "or no node i (kinds 1 to 4) or no node j (kinds 2 to 4) answers BAD_ARG". */
    private static void nodeSources() {
        for (int nodes = 0; nodes < 20; nodes++) {
            int n = nodes;
            for (int gate = NOT; gate <= XOR; gate++) {
                int kind = gate;
                range("node: i of kind " + kind, 0, n - 1, BAD_ARG, i -> withInputs(n).node(kind, i, 0));
            }
            for (int gate = AND; gate <= XOR; gate++) {
                int kind = gate;
                range("node: j of kind " + kind, 0, n - 1, BAD_ARG, j -> withInputs(n).node(kind, 0, j));
            }
        }
        for (int kind = NOT; kind <= XOR; kind++) {
            due("node: neither i nor j, kind " + kind, withInputs(2).node(kind, 2, 2), BAD_ARG);
        }
    }

    /** "no node i (kinds 1 to 4)", "no node j (kinds 2 to 4)": the other kinds don't look at them. */
    private static void nodeArgumentsThatAreNotUsed() {
        for (int stray : new int[] {LEAST, -1, 1, 20, 32, GREATEST}) {
            due("node: i of an input", withInputs(1).node(INPUT, stray, 0), 1);
            due("node: j of an input", withInputs(1).node(INPUT, 0, stray), 1);
            due("node: i of a latch", withInputs(1).node(LATCH, stray, 0), 1);
            due("node: j of a latch", withInputs(1).node(LATCH, 0, stray), 1);
            due("node: j of a not", withInputs(1).node(NOT, 0, stray), 1);
            TrajectoryCheck x = withInputs(1);
            x.node(INPUT, stray, stray);
            x.node(LATCH, stray, stray);
            x.node(NOT, 0, stray);
            due("node: cone of an input", x.cone(1), 2);
            due("node: cone of a latch", x.cone(2), 4);
            due("node: cone of a not", x.cone(3), 8 + 1);
            due("node: a latch is connected to itself", x.connect(2, 0), 2);
        }
    }

    /** "Tested in this order: ... answers BAD_ARG; there are 20 nodes answers FULL". */
    private static void nodeFullAfterBadArg() {
        TrajectoryCheck x = withInputs(19);
        due("node: the twentieth", x.node(XOR, 18, 18), 19);
        for (int kind = INPUT; kind <= LATCH; kind++) {
            due("node: full, kind " + kind, x.node(kind, 0, 0), FULL);
            due("node: full, of the last node, kind " + kind, x.node(kind, 19, 19), FULL);
        }
        for (int stray : new int[] {LEAST, -1, 20, GREATEST}) {
            due("node: full, i not used", x.node(INPUT, stray, stray), FULL);
            due("node: full, i and j not used", x.node(LATCH, stray, stray), FULL);
            due("node: full, j not used", x.node(NOT, 0, stray), FULL);
            for (int kind = NOT; kind <= XOR; kind++) {
                due("node: full, no node i", x.node(kind, stray, 0), BAD_ARG);
            }
            for (int kind = AND; kind <= XOR; kind++) {
                due("node: full, no node j", x.node(kind, 0, stray), BAD_ARG);
            }
        }
        for (int kind : new int[] {LEAST, -1, 6, GREATEST}) {
            due("node: full, no such kind", x.node(kind, 0, 0), BAD_ARG);
        }
        due("node: full, nodes()", x.nodes(), 20);
    }

    private static TrajectoryCheck withEachKind() {
        TrajectoryCheck x = new TrajectoryCheck();
        for (int kind = INPUT; kind <= LATCH; kind++) {
            x.node(kind, 0, 0);
        }
        return x;
    }

    /** "BAD_ARG if there is no node i": whatever kind of node it is. */
    private static void connectNodeI() {
        range("connect: i", 0, 5, BAD_ARG, i -> withEachKind().connect(5, i));
        range("connect: i, one latch alone", 0, 0, BAD_ARG, i -> withLatches(1).connect(0, i));
        range("connect: i, the full circuit", 0, 19, BAD_ARG, i -> withLatches(20).connect(0, i));
    }

    /** "or k is no latch": an input, a gate, or no node at all. */
    private static void connectLatchK() {
        range("connect: k", 5, 5, BAD_ARG, k -> withEachKind().connect(k, 0));
        range("connect: k, the full circuit", 0, 19, BAD_ARG, k -> withLatches(20).connect(k, 0));
        for (int kind = INPUT; kind <= XOR; kind++) {
            TrajectoryCheck x = withEachKind();
            due("connect: k of kind " + kind, x.connect(kind, 5), BAD_ARG);
            due("connect: k of kind " + kind + " to itself", x.connect(kind, kind), BAD_ARG);
            due("connect: the latch as it was", x.connect(5, 0), 5);
        }
        due("connect: neither k nor i", withEachKind().connect(6, 6), BAD_ARG);
        due("connect: k of the wrong kind, no i", withEachKind().connect(0, 6), BAD_ARG);
    }

    private static void connectInTheFullCircuit() {
        TrajectoryCheck x = withLatches(20);
        due("connect: the first to the last", x.connect(0, 19), 0);
        due("connect: the last to the first", x.connect(19, 0), 19);
        due("connect: refused", x.connect(19, 20), BAD_ARG);
        due("connect: refused", x.connect(20, 0), BAD_ARG);
        due("connect: the last, as it was", x.connect(19, 19), 0);
        due("connect: the first, as it was", x.connect(0, 0), 19);
    }

    // ---- Promises 4 and 5

    private static void promises4And5() {
        itemArguments(0);
        for (int claimed : FOR_CLAIMED) {
            itemArguments(claimed);
            itemOfTheOtherSort(claimed);
        }
        itemTwelve();
        itemFullAfterBadArg();
        itemFullOfOneSort();
        dropNumber();
        dropFromTwelveToNone();
        dropAtBothEnds();
        dropOfTheOtherSort();
    }

    /** "t not 0 to 3, no such node, demand or guard not 0 to 13 answers BAD_ARG". */
    private static void itemArguments(int claimed) {
        String item = "item of sort " + claimed;
        range(item + ": t", 0, 3, BAD_ARG, t -> withInputs(1).item(claimed, t, 0, 0, 0));
        range(item + ": node", 0, 0, BAD_ARG, node -> withInputs(1).item(claimed, 0, node, 0, 0));
        range(item + ": node of 20", 0, 19, BAD_ARG, node -> withInputs(20).item(claimed, 3, node, 0, 0));
        range(item + ": no node", 0, -1, BAD_ARG, node -> withInputs(0).item(claimed, 0, node, 0, 0));
        range(item + ": demand", 0, 13, BAD_ARG, demand -> withInputs(1).item(claimed, 0, 0, demand, 0));
        range(item + ": guard", 0, 13, BAD_ARG, guard -> withInputs(1).item(claimed, 0, 0, 0, guard));
    }

    /** "an assumed item (claimed = 0) or a claimed one (else)". */
    private static void itemOfTheOtherSort(int claimed) {
        TrajectoryCheck x = withInputs(1);
        due("item of sort " + claimed + " is the first of its sort", x.item(claimed, 0, 0, ONE, ALWAYS), 0);
        due("item of sort " + claimed + " isn't assumed", x.value(0, 0, 0), X);
        due("item of sort " + claimed + " is claimed", x.fails(), 64);
        due("item of sort " + claimed + ": assumed ones are numbered apart", x.item(0, 0, 0, ONE, ALWAYS), 0);
        due("item of sort " + claimed + ": 1 is the same sort", x.item(1, 0, 0, ONE, ALWAYS), 1);
    }

    /** "there are 12 items of that sort answers FULL. Otherwise its number among these, from 0 on." */
    private static void itemTwelve() {
        for (int claimed : new int[] {0, 1, LEAST, GREATEST}) {
            TrajectoryCheck x = withItems(claimed, 11);
            due("item: the twelfth", x.item(claimed, 0, 0, ONE, NEVER), 11);
            due("item: the thirteenth", x.item(claimed, 0, 0, ONE, ALWAYS), FULL);
            due("item: again", x.item(claimed, 3, 0, 0, 0), FULL);
            due("item: the thirteenth isn't assumed", x.definite(0, 0), 0);
            due("item: the thirteenth isn't claimed", x.fails(), 0);
            due("item: one is taken away", x.drop(claimed, 0), 11);
            due("item: room for one", x.item(claimed, 0, 0, ONE, NEVER), 11);
            due("item: and no more", x.item(claimed, 0, 0, ONE, NEVER), FULL);
        }
    }

    /** "Tested in this order: ... answers BAD_ARG; there are 12 items of that sort answers FULL". */
    private static void itemFullAfterBadArg() {
        for (int claimed = 0; claimed <= 1; claimed++) {
            TrajectoryCheck x = withItems(claimed, 12);
            for (int far : new int[] {LEAST, -1, 14, GREATEST}) {
                due("item: full, t", x.item(claimed, far, 0, 0, 0), BAD_ARG);
                due("item: full, node", x.item(claimed, 0, far, 0, 0), BAD_ARG);
                due("item: full, demand", x.item(claimed, 0, 0, far, 0), BAD_ARG);
                due("item: full, guard", x.item(claimed, 0, 0, 0, far), BAD_ARG);
            }
            due("item: full, t 4", x.item(claimed, 4, 0, 0, 0), BAD_ARG);
            due("item: full, node 1", x.item(claimed, 0, 1, 0, 0), BAD_ARG);
            due("item: full, all at their least", x.item(claimed, 0, 0, 0, 0), FULL);
            due("item: full, all at their greatest", x.item(claimed, 3, 0, 13, 13), FULL);
        }
    }

    /** "12 items of that sort": the other sort has room, and is full on its own. */
    private static void itemFullOfOneSort() {
        for (int claimed = 0; claimed <= 1; claimed++) {
            TrajectoryCheck x = withItems(claimed, 12);
            for (int k = 0; k < 12; k++) {
                due("item: the other sort", x.item(1 - claimed, 0, 0, ONE, NEVER), k);
                due("item: the full sort", x.item(claimed, 0, 0, ONE, NEVER), FULL);
            }
            due("item: the other sort is full", x.item(1 - claimed, 0, 0, ONE, NEVER), FULL);
        }
    }

    /** "Takes ... item k away; NONE if there is none." */
    private static void dropNumber() {
        for (int claimed = 0; claimed <= 1; claimed++) {
            int sort = claimed;
            for (int items = 0; items <= 12; items++) {
                int count = items;
                range("drop of " + count, 0, count - 1, NONE, k -> withItems(sort, count).drop(sort, k));
                due("drop where only the other sort has any", withItems(1 - sort, count).drop(sort, 0), NONE);
            }
        }
    }

    /** "Otherwise how many are left." */
    private static void dropFromTwelveToNone() {
        for (int claimed = 0; claimed <= 1; claimed++) {
            TrajectoryCheck first = withItems(claimed, 12);
            TrajectoryCheck last = withItems(claimed, 12);
            for (int left = 11; left >= 0; left--) {
                due("drop: none behind the last", last.drop(claimed, left + 1), NONE);
                due("drop: the last", last.drop(claimed, left), left);
                due("drop: the first", first.drop(claimed, 0), left);
            }
            due("drop: from none", last.drop(claimed, 0), NONE);
            due("drop: from none", first.drop(claimed, 0), NONE);
            due("drop: numbered from 0 on again", first.item(claimed, 0, 0, ONE, NEVER), 0);
        }
    }

    /** Of twelve items the first, the last or one between: the others stay, in their order. */
    private static void dropAtBothEnds() {
        for (int dropped = 0; dropped < 12; dropped++) {
            TrajectoryCheck x = withInputs(12);
            for (int k = 0; k < 12; k++) {
                x.item(ASSUMED, 0, k, k % 6, ALWAYS);
                x.item(CLAIMED, 1, k, ONE, k % 2 == 0 ? ALWAYS : 0);
            }
            due("drop: assumed item " + dropped, x.drop(ASSUMED, dropped), 11);
            due("drop: claimed item " + dropped, x.drop(CLAIMED, dropped), 11);
            for (int k = 0; k < 12; k++) {
                due("drop: node " + k + " without item " + dropped, x.needs(0, k), k == dropped ? 0 : 1 << k % 6);
            }
            for (int k = 0; k < 11; k++) {
                int before = k < dropped ? k : k + 1;
                due("drop: item " + k + " without item " + dropped, x.failsOf(k), before % 2 == 0 ? 64 : 32);
            }
            due("drop: no item 11", x.failsOf(11), NONE);
        }
    }

    /** "assumed (claimed = 0) or claimed (else)". */
    private static void dropOfTheOtherSort() {
        for (int claimed : FOR_CLAIMED) {
            TrajectoryCheck x = withInputs(1);
            x.item(ASSUMED, 0, 0, ONE, ALWAYS);
            x.item(CLAIMED, 1, 0, ONE, ALWAYS);
            due("drop of sort " + claimed, x.drop(claimed, 0), 0);
            due("drop of sort " + claimed + ": nothing is claimed", x.fails(), 0);
            due("drop of sort " + claimed + ": the assumed one stays", x.value(0, 0, 0), V1);
            due("drop of sort " + claimed + ": none is left", x.drop(claimed, 0), NONE);
            due("drop of sort 0", x.drop(0, 0), 0);
        }
    }

    // ---- Promises 6 to 9

    private static void promises6To9() {
        nodesFrom0To20();
        valueMoment();
        valueNode();
        valueAssignment();
        valueAnswers();
        definiteArguments();
        definiteFrom0To64();
        needsArguments();
        needsFromNoneToAll();
        needsOneOfSix();
    }

    private static void nodesFrom0To20() {
        for (int count = 0; count <= 20; count++) {
            TrajectoryCheck x = withInputs(count);
            due("nodes()", x.nodes(), count);
            x.node(6, 0, 0);
            due("nodes() after a refused node", x.nodes(), count);
        }
        due("nodes() after one too many", withInputs(21).nodes(), 20);
    }

    /** "BAD_ARG if t is not 0 to 3". */
    private static void valueMoment() {
        range("value: t", 0, 3, BAD_ARG, t -> withInputs(1).value(t, 0, 0));
        range("value: t, the full circuit", 0, 3, BAD_ARG, t -> withInputs(20).value(t, 19, 63));
    }

    /** "there is no such node": in the full circuit too, at each moment. */
    private static void valueNode() {
        for (int moment = 0; moment <= 3; moment++) {
            int t = moment;
            range("value: no node", 0, -1, BAD_ARG, node -> withInputs(0).value(t, node, 0));
            range("value: one node", 0, 0, BAD_ARG, node -> withInputs(1).value(t, node, 0));
            range("value: twenty nodes", 0, 19, BAD_ARG, node -> withInputs(20).value(t, node, 63));
        }
    }

    /** "or assignment is not 0 to 63". */
    private static void valueAssignment() {
        range("value: assignment", 0, 63, BAD_ARG, assignment -> withInputs(1).value(0, 0, assignment));
        // A shift by 64 or by 32 is one by 0 in Java, so that these would be assignments.
        for (int assignment : new int[] {-64, -63, -32, -1, 64, 96, 127, 128, 256}) {
            due("value: assignment " + assignment, withInputs(1).value(0, 0, assignment), BAD_ARG);
        }
    }

    /** "0 for X, 1 for 0, 2 for 1, 3 for T", in the least and the greatest assignment of each. */
    private static void valueAnswers() {
        TrajectoryCheck x = withInputs(20);
        x.item(ASSUMED, 3, 19, ONE, 0);
        x.item(ASSUMED, 3, 19, ZERO, 5);
        int[] assignments = {0, 30, 32, 62, 1, 31, 33, 63};
        int[] wanted = {X, X, V0, V0, V1, V1, T, T};
        for (int n = 0; n < 8; n++) {
            due("value: in assignment " + assignments[n], x.value(3, 19, assignments[n]), wanted[n]);
            due("value: the moment before", x.value(2, 19, assignments[n]), X);
            due("value: the node before", x.value(3, 18, assignments[n]), X);
        }
    }

    /** "BAD_ARG if t is not 0 to 3 or there is no such node." */
    private static void definiteArguments() {
        range("definite: t", 0, 3, BAD_ARG, t -> withInputs(1).definite(t, 0));
        for (int moment = 0; moment <= 3; moment++) {
            int t = moment;
            range("definite: no node", 0, -1, BAD_ARG, node -> withInputs(0).definite(t, node));
            range("definite: one node", 0, 0, BAD_ARG, node -> withInputs(1).definite(t, node));
            range("definite: twenty nodes", 0, 19, BAD_ARG, node -> withInputs(20).definite(t, node));
        }
    }

    /**
     * Inputs 0 to 5, of which input k is demanded to be what is told at the moment where literal
     * k + shift is 1, and the and of them all as node 10.
     */
    private static TrajectoryCheck withAndOfSix(int t, int demand, int shift) {
        TrajectoryCheck x = withInputs(6);
        x.node(AND, 0, 1);
        for (int k = 2; k < 6; k++) {
            x.node(AND, k, k + 4);
        }
        for (int k = 0; k < 6; k++) {
            x.item(ASSUMED, t, k, demand, k + shift);
        }
        return x;
    }

    private static void definiteFrom0To64() {
        TrajectoryCheck x = withInputs(1);
        due("definite: none", x.definite(0, 0), 0);
        x.item(ASSUMED, 0, 0, ONE, ALWAYS);
        due("definite: all", x.definite(0, 0), 64);
        x.item(ASSUMED, 0, 0, ZERO, ALWAYS);
        due("definite: all T", x.definite(0, 0), 0);
        due("definite: 63 alone", withAndOfSix(0, ONE, 0).definite(0, 10), 1);
        due("definite: 0 alone", withAndOfSix(3, ONE, 6).definite(3, 10), 1);
        due("definite: all but 0", withAndOfSix(0, ZERO, 0).definite(0, 10), 63);
        due("definite: all but 63", withAndOfSix(3, ZERO, 6).definite(3, 10), 63);
    }

    /** "BAD_ARG as for definite." */
    private static void needsArguments() {
        range("needs: t", 0, 3, BAD_ARG, t -> withInputs(1).needs(t, 0));
        for (int moment = 0; moment <= 3; moment++) {
            int t = moment;
            range("needs: no node", 0, -1, BAD_ARG, node -> withInputs(0).needs(t, node));
            range("needs: one node", 0, 0, BAD_ARG, node -> withInputs(1).needs(t, node));
            range("needs: twenty nodes", 0, 19, BAD_ARG, node -> withInputs(20).needs(t, node));
        }
    }

    /** "two assignments that differ in k alone": one such pair is enough, that of the least or the greatest too. */
    private static void needsFromNoneToAll() {
        due("needs: none", withAndOfSix(0, ONE, 0).needs(1, 10), 0);
        due("needs: all, by assignment 63 alone", withAndOfSix(0, ONE, 0).needs(0, 10), 63);
        due("needs: all, by assignment 0 alone", withAndOfSix(3, ONE, 6).needs(3, 10), 63);
        due("needs: all, by all but 0", withAndOfSix(0, ZERO, 0).needs(0, 10), 63);
        due("needs: all, by all but 63", withAndOfSix(3, ZERO, 6).needs(3, 10), 63);
    }

    private static void needsOneOfSix() {
        for (int k = 0; k < 6; k++) {
            TrajectoryCheck x = withInputs(1);
            x.item(ASSUMED, 0, 0, k, ALWAYS);
            x.item(ASSUMED, 3, 0, ZERO, not(k));
            due("needs: variable " + k, x.needs(0, 0), 1 << k);
            due("needs: variable " + k + " as a guard", x.needs(3, 0), 1 << k);
        }
    }

    // ---- Promises 10 to 12

    private static void promises10To12() {
        failsFrom0To64();
        idleFrom0To64();
        firstAmongFailing();
        firstIfThereIsNone();
    }

    private static void failsFrom0To64() {
        decided("no claimed item", withAndOfSix(0, ONE, 0), 0, 0, NONE);
        TrajectoryCheck x = withInputs(1);
        x.item(CLAIMED, 3, 0, ONE, ALWAYS);
        decided("all fail", x, 64, 0, 0);
        decided("all but 63 fail", claiming(withAndOfSix(0, ONE, 0), 0, ONE), 63, 0, 0);
        decided("all but 0 fail", claiming(withAndOfSix(3, ONE, 6), 3, ONE), 63, 0, 1);
        decided("0 alone fails", claiming(withAndOfSix(0, ZERO, 0), 0, ZERO), 1, 0, 0);
        decided("63 alone fails", claiming(withAndOfSix(3, ZERO, 6), 3, ZERO), 1, 0, 63);
    }

    private static TrajectoryCheck claiming(TrajectoryCheck x, int t, int demand) {
        x.item(CLAIMED, t, 10, demand, ALWAYS);
        return x;
    }

    private static void decided(String what, TrajectoryCheck x, int fails, int idle, int first) {
        due(what + ": fails()", x.fails(), fails);
        due(what + ": idle()", x.idle(), idle);
        due(what + ": first()", x.first(), first);
    }

    private static void idleFrom0To64() {
        decided("63 alone is idle", opposing(withAndOfSix(0, ONE, 0), 0, ZERO), 63, 1, 0);
        decided("0 alone is idle", opposing(withAndOfSix(3, ONE, 6), 3, ZERO), 63, 1, 1);
        decided("all but 0 are idle", opposing(withAndOfSix(0, ZERO, 0), 0, ONE), 1, 63, 0);
        decided("all but 63 are idle", opposing(withAndOfSix(3, ZERO, 6), 3, ONE), 1, 63, 63);
        TrajectoryCheck x = opposing(withAndOfSix(0, ZERO, 0), 0, ONE);
        x.item(ASSUMED, 3, 0, ONE, not(0));
        x.item(ASSUMED, 3, 0, ZERO, not(0));
        decided("all are idle", x, 0, 64, NONE);
    }

    /** The and is demanded otherwise, and what is claimed fails wherever it isn't idle. */
    private static TrajectoryCheck opposing(TrajectoryCheck x, int t, int demand) {
        x.item(ASSUMED, t, 10, demand, ALWAYS);
        x.item(CLAIMED, 2, 10, ONE, ALWAYS);
        return x;
    }

    /** "The least assignment that fails": each of the 64 can be it. */
    private static void firstAmongFailing() {
        for (int a = 0; a < 64; a++) {
            TrajectoryCheck x = withInputs(1);
            x.item(CLAIMED, 0, 0, ONE, ALWAYS);
            for (int k = 0; k < 6; k++) {
                boolean one = (a >> k & 1) == 1;
                x.item(ASSUMED, 0, 0, ONE, one ? not(k) : k);
            }
            decided("assignment " + a + " alone fails", x, 1, 0, a);
        }
    }

    /** "NONE if there is none." */
    private static void firstIfThereIsNone() {
        due("first: no node", withInputs(0).first(), NONE);
        due("first: no item", withInputs(20).first(), NONE);
        due("first: no claimed item", withItems(ASSUMED, 12).first(), NONE);
        due("first: claimed items that never count", withItems(CLAIMED, 12).first(), NONE);
        TrajectoryCheck x = withInputs(1);
        x.item(CLAIMED, 0, 0, 3, ALWAYS);
        x.item(ASSUMED, 0, 0, 3, ALWAYS);
        decided("what is claimed is assumed", x, 0, 0, NONE);
        x.drop(ASSUMED, 0);
        decided("no more assumed", x, 64, 0, 0);
        x.drop(CLAIMED, 0);
        decided("no more claimed", x, 0, 0, NONE);
    }

    // ---- Promises 13 to 15

    private static void promises13To15() {
        failsOfNumber();
        failsOfFrom0To64();
        withoutNumber();
        withoutFrom0To64();
        coneNode();
        coneFromOneToAll();
        coneOfLatches();
    }

    /** "NONE if there is no claimed item k." */
    private static void failsOfNumber() {
        for (int items = 0; items <= 12; items++) {
            int count = items;
            range("failsOf, " + count + " claimed", 0, count - 1, NONE, k -> withItems(CLAIMED, count).failsOf(k));
            due("failsOf, " + count + " assumed", withItems(ASSUMED, count).failsOf(0), NONE);
        }
    }

    private static void failsOfFrom0To64() {
        due("failsOf: 63", claiming(withAndOfSix(0, ONE, 0), 0, ONE).failsOf(0), 63);
        due("failsOf: 1", claiming(withAndOfSix(3, ZERO, 6), 3, ZERO).failsOf(0), 1);
        due("failsOf: all but the idle one", opposing(withAndOfSix(0, ONE, 0), 0, ZERO).failsOf(0), 63);
        due("failsOf: the one that isn't idle", opposing(withAndOfSix(3, ZERO, 6), 3, ONE).failsOf(0), 1);
        TrajectoryCheck x = withItems(CLAIMED, 11);
        x.item(CLAIMED, 3, 0, ZERO, ALWAYS);
        due("failsOf: 0 of the first", x.failsOf(0), 0);
        due("failsOf: 64 of the twelfth", x.failsOf(11), 64);
        x.item(ASSUMED, 3, 0, ZERO, ALWAYS);
        due("failsOf: 0 of the twelfth", x.failsOf(11), 0);
        x.item(ASSUMED, 3, 0, ONE, ALWAYS);
        due("failsOf: 0 where all are idle", x.failsOf(11), 0);
    }

    /** "NONE if there is no assumed item k." */
    private static void withoutNumber() {
        for (int items = 0; items <= 12; items++) {
            int count = items;
            range("without, " + count + " assumed", 0, count - 1, NONE, k -> withItems(ASSUMED, count).without(k));
            due("without, " + count + " claimed", withItems(CLAIMED, count).without(0), NONE);
        }
    }

    private static void withoutFrom0To64() {
        TrajectoryCheck x = withItems(ASSUMED, 11);
        x.item(CLAIMED, 3, 0, ZERO, ALWAYS);
        x.item(ASSUMED, 3, 0, ZERO, ALWAYS);
        due("without: 0 of the first", x.without(0), 0);
        due("without: 64 of the twelfth, all held", x.without(11), 64);
        due("without: it stays", x.fails(), 0);
        due("without: and it can be taken away", x.drop(ASSUMED, 11), 11);
        due("without: which is as was told", x.fails(), 64);
        withoutWhereAllAreIdle();
    }

    private static void withoutWhereAllAreIdle() {
        TrajectoryCheck x = withInputs(1);
        x.item(CLAIMED, 0, 0, ONE, ALWAYS);
        x.item(ASSUMED, 0, 0, ONE, ALWAYS);
        x.item(ASSUMED, 0, 0, ZERO, ALWAYS);
        decided("without: all idle", x, 0, 64, NONE);
        due("without: 64, all were idle and fail", x.without(0), 64);
        due("without: 0, all were idle and hold", x.without(1), 0);
        decided("without: still all idle", x, 0, 64, NONE);
    }

    /** "BAD_ARG if there is no such node." */
    private static void coneNode() {
        range("cone: no node", 0, -1, BAD_ARG, node -> withInputs(0).cone(node));
        range("cone: one node", 0, 0, BAD_ARG, node -> withInputs(1).cone(node));
        range("cone: nineteen nodes", 0, 18, BAD_ARG, node -> withInputs(19).cone(node));
        range("cone: twenty nodes", 0, 19, BAD_ARG, node -> withInputs(20).cone(node));
        // 1 << 32 is 1 << 0 in Java, so that these would be nodes.
        for (int node : new int[] {-32, -31, -13, 32, 33, 51, 64}) {
            due("cone: node " + node, withInputs(20).cone(node), BAD_ARG);
        }
    }

    /** "itself, and with any node those that it is a gate of": from itself alone to all twenty. */
    private static void coneFromOneToAll() {
        for (int node = 0; node < 20; node++) {
            due("cone: itself alone", withInputs(20).cone(node), 1 << node);
        }
        for (int kind = NOT; kind <= XOR; kind++) {
            TrajectoryCheck x = withInputs(1);
            for (int n = 1; n < 20; n++) {
                x.node(kind, n - 1, n - 1);
            }
            due("cone: the first of twenty", x.cone(0), 1);
            due("cone: the last of twenty", x.cone(19), (1 << 20) - 1);
        }
    }

    /** "or connected to": at first to itself, which adds nothing; round in a circle all are in each other's. */
    private static void coneOfLatches() {
        TrajectoryCheck x = withLatches(20);
        due("cone: the first latch, connected to itself", x.cone(0), 1);
        due("cone: the last latch, connected to itself", x.cone(19), 1 << 19);
        for (int k = 0; k < 20; k++) {
            x.connect(k, (k + 1) % 20);
        }
        due("cone: the first of the circle", x.cone(0), (1 << 20) - 1);
        due("cone: the last of the circle", x.cone(19), (1 << 20) - 1);
        x.connect(19, 19);
        due("cone: the circle is open", x.cone(0), (1 << 20) - 1);
        due("cone: its end", x.cone(19), 1 << 19);
        due("cone: a refused connection", x.connect(19, 20), BAD_ARG);
        due("cone: its end, as before", x.cone(19), 1 << 19);
    }
}
