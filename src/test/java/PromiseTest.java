import java.util.Arrays;

/** Each promise of the document, on inputs whose answers were worked out by hand from its words. */
public final class PromiseTest {
    private static final int BAD_ARG = -1;
    private static final int FULL = -2;
    private static final int NONE = -4;

    private static final int INPUT = 0;
    private static final int NOT = 1;
    private static final int AND = 2;
    private static final int OR = 3;
    private static final int XOR = 4;
    private static final int LATCH = 5;

    private static final int ASSUMED = 0;
    private static final int CLAIMED = 1;

    private static final int X = 0;
    private static final int V0 = 1;
    private static final int V1 = 2;
    private static final int T = 3;

    private static final int ZERO = 12;
    private static final int ONE = 13;
    private static final int ALWAYS = 13;
    private static final int NEVER = 12;

    private static final int[] FAR = {Integer.MIN_VALUE, -64, -2, -1, 64, 1000, Integer.MAX_VALUE};

    public static void main(String[] args) {
        promise1NewObject();
        promise2Node();
        promise2NodeRefused();
        promise2GateTables();
        promise3Connect();
        promise3ConnectRefused();
        promise4Item();
        promise4Literals();
        promise4ItemRefused();
        promise4Full();
        promise5Drop();
        promise5DropRefused();
        promise6Nodes();
        promise7Value();
        promise7ValueRefused();
        promise7OrderOfAssuming();
        promise8Definite();
        promise9Needs();
        promise10Fails();
        promise11Idle();
        promise12First();
        promise13FailsOf();
        promise14Without();
        promise15Cone();
        objectsApart();
        Due.end();
    }

    private static int not(int literal) {
        return literal + 6;
    }

    private static void due(String call, long got, long want) {
        Due.due(call, got, want);
    }

    private static void values(String what, TrajectoryCheck x, int node, int assignment, int... wanted) {
        for (int t = 0; t < 4; t++) {
            due(what + ": value(" + t + ", " + node + ", " + assignment + ")", x.value(t, node, assignment), wanted[t]);
        }
    }

    private static void promise1NewObject() {
        TrajectoryCheck x = new TrajectoryCheck();
        due("new: nodes()", x.nodes(), 0);
        due("new: fails()", x.fails(), 0);
        due("new: idle()", x.idle(), 0);
        due("new: first()", x.first(), NONE);
        due("new: failsOf(0)", x.failsOf(0), NONE);
        due("new: without(0)", x.without(0), NONE);
        due("new: drop(0, 0)", x.drop(ASSUMED, 0), NONE);
        due("new: drop(1, 0)", x.drop(CLAIMED, 0), NONE);
        due("new: value(0, 0, 0)", x.value(0, 0, 0), BAD_ARG);
        due("new: definite(0, 0)", x.definite(0, 0), BAD_ARG);
        due("new: needs(0, 0)", x.needs(0, 0), BAD_ARG);
        due("new: cone(0)", x.cone(0), BAD_ARG);
        due("new: connect(0, 0)", x.connect(0, 0), BAD_ARG);
        due("new: item(0, 0, 0, 0, 0)", x.item(0, 0, 0, 0, 0), BAD_ARG);
        due("new: the first node", x.node(INPUT, 0, 0), 0);
        due("new: the first assumed item", x.item(ASSUMED, 0, 0, 0, 0), 0);
        due("new: the first claimed item", x.item(CLAIMED, 0, 0, 0, 0), 0);
    }

    private static void promise2Node() {
        TrajectoryCheck x = new TrajectoryCheck();
        due("node: an input doesn't look at i and j", x.node(INPUT, -7, 99), 0);
        due("node: a latch doesn't look at i and j", x.node(LATCH, Integer.MIN_VALUE, Integer.MAX_VALUE), 1);
        due("node: not doesn't look at j", x.node(NOT, 1, -1), 2);
        due("node: and", x.node(AND, 0, 2), 3);
        due("node: or of one node twice", x.node(OR, 3, 3), 4);
        due("node: xor", x.node(XOR, 4, 0), 5);
        due("node: nodes()", x.nodes(), 6);
        due("node: cone of the input", x.cone(0), 1);
        due("node: cone of the latch", x.cone(1), 2);
        due("node: cone of not", x.cone(2), 2 + 4);
        due("node: cone of xor", x.cone(5), 63);
        for (int number = 6; number < 20; number++) {
            due("node: the next number", x.node(INPUT, 0, 0), number);
        }
        due("node: a bad kind before FULL", x.node(6, 0, 0), BAD_ARG);
        due("node: a bad i before FULL", x.node(NOT, 20, 0), BAD_ARG);
        due("node: a bad j before FULL", x.node(XOR, 0, 20), BAD_ARG);
        for (int kind = INPUT; kind <= LATCH; kind++) {
            due("node: a node too many of kind " + kind, x.node(kind, 0, 0), FULL);
        }
        due("node: nodes() when full", x.nodes(), 20);
        due("node: value of the last node", x.value(3, 19, 63), X);
        due("node: cone of the last node", x.cone(19), 1 << 19);
        due("node: still no node 20", x.value(0, 20, 0), BAD_ARG);
    }

    private static void promise2NodeRefused() {
        TrajectoryCheck x = Sample.small();
        int[] before = look(x);
        due("node(-1, 0, 0)", x.node(-1, 0, 0), BAD_ARG);
        due("node(6, 0, 0)", x.node(6, 0, 0), BAD_ARG);
        for (int far : FAR) {
            due("node: kind " + far, x.node(far, 0, 0), BAD_ARG);
        }
        for (int kind = NOT; kind <= XOR; kind++) {
            due("node: its own number as i, kind " + kind, x.node(kind, x.nodes(), 0), BAD_ARG);
            due("node: -1 as i, kind " + kind, x.node(kind, -1, 0), BAD_ARG);
        }
        for (int kind = AND; kind <= XOR; kind++) {
            due("node: its own number as j, kind " + kind, x.node(kind, 0, x.nodes()), BAD_ARG);
            due("node: -1 as j, kind " + kind, x.node(kind, 0, -1), BAD_ARG);
            due("node: the least number as j, kind " + kind, x.node(kind, 0, Integer.MIN_VALUE), BAD_ARG);
        }
        unchanged("node refused", x, before);
    }

    /** Node 0 has the value that variables 1 and 0 spell, and node 1 the one that 3 and 2 spell. */
    private static TrajectoryCheck withEveryPairOfValues() {
        TrajectoryCheck x = new TrajectoryCheck();
        x.node(INPUT, 0, 0);
        x.node(INPUT, 0, 0);
        x.item(ASSUMED, 0, 0, ZERO, 0);
        x.item(ASSUMED, 0, 0, ONE, 1);
        x.item(ASSUMED, 0, 1, ZERO, 2);
        x.item(ASSUMED, 0, 1, ONE, 3);
        return x;
    }

    private static void promise2GateTables() {
        int[] not = {X, V1, V0, T};
        int[] and = {
            X, V0, X, V0,
            V0, V0, V0, V0,
            X, V0, V1, T,
            V0, V0, T, T};
        int[] or = {
            X, X, V1, V1,
            X, V0, V1, T,
            V1, V1, V1, V1,
            V1, T, V1, T};
        int[] xor = {
            X, X, X, T,
            X, V0, V1, T,
            X, V1, V0, T,
            T, T, T, T};
        TrajectoryCheck x = withEveryPairOfValues();
        x.node(NOT, 0, 0);
        x.node(AND, 0, 1);
        x.node(OR, 0, 1);
        x.node(XOR, 0, 1);
        for (int first = X; first <= T; first++) {
            for (int second = X; second <= T; second++) {
                int a = first + 4 * second;
                String of = " of " + first + " and " + second;
                due("the first" + of, x.value(0, 0, a), first);
                due("the second" + of, x.value(0, 1, a), second);
                due("not" + of, x.value(0, 2, a), not[first]);
                due("and" + of, x.value(0, 3, a), and[4 * first + second]);
                due("or" + of, x.value(0, 4, a), or[4 * first + second]);
                due("xor" + of, x.value(0, 5, a), xor[4 * first + second]);
                due("xor" + of + ", a moment later", x.value(1, 5, a), X);
            }
        }
        due("gates of one unknown node twice", x.node(XOR, 0, 0), 6);
        due("xor of one unknown node twice", x.value(0, 6, 0), X);
        due("xor of one known node twice", x.value(0, 6, 2), V0);
    }

    private static void promise3Connect() {
        TrajectoryCheck x = new TrajectoryCheck();
        x.node(LATCH, 0, 0);
        x.node(INPUT, 0, 0);
        x.node(LATCH, 1, 1);
        due("connect: at first to itself", x.connect(0, 2), 0);
        due("connect: the second latch, at first to itself", x.connect(2, 2), 2);
        due("connect: to a later node", x.connect(0, 1), 2);
        due("connect: the same again", x.connect(0, 1), 1);
        due("connect: the second to the first", x.connect(2, 0), 2);
        x.item(ASSUMED, 0, 1, ONE, ALWAYS);
        values("connect: one moment late", x, 0, 0, X, V1, X, X);
        values("connect: two moments late", x, 2, 0, X, X, V1, X);
        due("connect: back to itself", x.connect(0, 0), 1);
        values("connect: to itself nothing is known", x, 0, 0, X, X, X, X);
        x.item(ASSUMED, 1, 0, ZERO, ALWAYS);
        values("connect: to itself it is kept", x, 0, 0, X, V0, V0, V0);
    }

    private static void promise3ConnectRefused() {
        TrajectoryCheck x = Sample.small();
        int[] before = look(x);
        due("connect: an input", x.connect(0, 0), BAD_ARG);
        due("connect: a gate", x.connect(2, 0), BAD_ARG);
        due("connect: no node k", x.connect(3, 0), BAD_ARG);
        due("connect: no node i", x.connect(1, 3), BAD_ARG);
        due("connect: neither", x.connect(20, 20), BAD_ARG);
        for (int far : FAR) {
            due("connect: k " + far, x.connect(far, 0), BAD_ARG);
            due("connect: i " + far, x.connect(1, far), BAD_ARG);
        }
        unchanged("connect refused", x, before);
        due("connect: still as before", x.connect(1, 2), 2);
    }

    private static void promise4Item() {
        TrajectoryCheck x = new TrajectoryCheck();
        x.node(INPUT, 0, 0);
        due("item: assumed", x.item(ASSUMED, 0, 0, ONE, ALWAYS), 0);
        due("item: claimed", x.item(CLAIMED, 0, 0, ONE, ALWAYS), 0);
        due("item: claimed is anything but 0", x.item(-5, 1, 0, ONE, ALWAYS), 1);
        due("item: claimed is the least number", x.item(Integer.MIN_VALUE, 1, 0, ONE, 0), 2);
        due("item: claimed is an even number", x.item(2, 1, 0, ONE, 1), 3);
        due("item: assumed again", x.item(ASSUMED, 3, 0, ZERO, ALWAYS), 1);
        values("item: only its own moment", x, 0, 17, V1, X, X, V0);
        due("item: failsOf(0)", x.failsOf(0), 0);
        due("item: failsOf(1)", x.failsOf(1), 64);
        due("item: failsOf(3)", x.failsOf(3), 32);
        due("item: the same item twice", x.item(ASSUMED, 3, 0, ZERO, ALWAYS), 2);
        values("item: twice is as once", x, 0, 17, V1, X, X, V0);
    }

    private static void promise4Literals() {
        for (int literal = 0; literal <= 13; literal++) {
            TrajectoryCheck x = new TrajectoryCheck();
            x.node(INPUT, 0, 0);
            x.item(ASSUMED, 0, 0, literal, ALWAYS);
            x.item(ASSUMED, 1, 0, ONE, literal);
            for (int a = 0; a < 64; a += 3) {
                boolean on = isOn(literal, a);
                due("demand " + literal + " in " + a, x.value(0, 0, a), on ? V1 : V0);
                due("guard " + literal + " in " + a, x.value(1, 0, a), on ? V1 : X);
            }
            int needed = literal < 12 ? 1 << literal % 6 : 0;
            due("needs of demand " + literal, x.needs(0, 0), needed);
            due("needs of guard " + literal, x.needs(1, 0), needed);
        }
    }

    private static boolean isOn(int literal, int assignment) {
        int[] weights = {1, 2, 4, 8, 16, 32};
        if (literal >= 12) {
            return literal == 13;
        }
        boolean variable = assignment / weights[literal % 6] % 2 == 1;
        return literal < 6 ? variable : !variable;
    }

    private static void promise4ItemRefused() {
        for (int claimed = 0; claimed <= 1; claimed++) {
            TrajectoryCheck x = Sample.small();
            int[] before = look(x);
            due("item: moment 4", x.item(claimed, 4, 0, 0, 0), BAD_ARG);
            due("item: moment -1", x.item(claimed, -1, 0, 0, 0), BAD_ARG);
            due("item: no such node", x.item(claimed, 0, 3, 0, 0), BAD_ARG);
            due("item: demand 14", x.item(claimed, 0, 0, 14, 0), BAD_ARG);
            due("item: demand -1", x.item(claimed, 0, 0, -1, 0), BAD_ARG);
            due("item: guard 14", x.item(claimed, 0, 0, 0, 14), BAD_ARG);
            due("item: guard -1", x.item(claimed, 0, 0, 0, -1), BAD_ARG);
            for (int far : FAR) {
                due("item: moment " + far, x.item(claimed, far, 0, 0, 0), BAD_ARG);
                due("item: node " + far, x.item(claimed, 0, far, 0, 0), BAD_ARG);
                due("item: demand " + far, x.item(claimed, 0, 0, far, 0), BAD_ARG);
                due("item: guard " + far, x.item(claimed, 0, 0, 0, far), BAD_ARG);
            }
            unchanged("item refused", x, before);
        }
    }

    private static void promise4Full() {
        for (int claimed = 0; claimed <= 1; claimed++) {
            TrajectoryCheck x = new TrajectoryCheck();
            x.node(INPUT, 0, 0);
            for (int k = 0; k < 12; k++) {
                due("item: the next number", x.item(claimed, 0, 0, ONE, NEVER), k);
            }
            due("item: a bad moment before FULL", x.item(claimed, 4, 0, 0, 0), BAD_ARG);
            due("item: a bad node before FULL", x.item(claimed, 0, 1, 0, 0), BAD_ARG);
            due("item: a bad demand before FULL", x.item(claimed, 0, 0, 14, 0), BAD_ARG);
            due("item: a bad guard before FULL", x.item(claimed, 0, 0, 0, 14), BAD_ARG);
            due("item: one too many", x.item(claimed, 0, 0, ONE, ALWAYS), FULL);
            due("item: the one too many has no effect", x.value(0, 0, 0), X);
            due("item: nothing fails for it", x.fails(), 0);
            due("item: the other sort has room", x.item(1 - claimed, 0, 0, ONE, NEVER), 0);
            due("item: twelve were kept", x.drop(claimed, 11), 11);
            due("item: room again", x.item(claimed, 0, 0, ONE, NEVER), 11);
            due("item: and full again", x.item(claimed, 0, 0, ONE, NEVER), FULL);
        }
        bothSortsFull();
    }

    private static void bothSortsFull() {
        TrajectoryCheck x = new TrajectoryCheck();
        x.node(INPUT, 0, 0);
        for (int k = 0; k < 12; k++) {
            x.item(ASSUMED, 0, 0, ONE, k == 11 ? 4 : NEVER);
            x.item(CLAIMED, 0, 0, ONE, k == 11 ? 5 : NEVER);
        }
        due("both full: assumed", x.item(ASSUMED, 0, 0, 0, 0), FULL);
        due("both full: claimed", x.item(CLAIMED, 0, 0, 0, 0), FULL);
        due("both full: definite(0, 0)", x.definite(0, 0), 32);
        due("both full: fails()", x.fails(), 16);
        due("both full: failsOf(11)", x.failsOf(11), 16);
        due("both full: failsOf(12)", x.failsOf(12), NONE);
        due("both full: without(11)", x.without(11), 16);
        due("both full: without(12)", x.without(12), NONE);
    }

    private static void promise5Drop() {
        TrajectoryCheck x = new TrajectoryCheck();
        for (int n = 0; n < 4; n++) {
            x.node(INPUT, 0, 0);
            x.item(ASSUMED, 0, n, ONE, n);
        }
        // Nothing is known at moment 1, so that these fail where they count: in 64, 32, 0 and 32 assignments.
        x.item(CLAIMED, 1, 0, ONE, ALWAYS);
        x.item(CLAIMED, 1, 1, ONE, 5);
        x.item(CLAIMED, 0, 0, ZERO, NEVER);
        x.item(CLAIMED, 1, 3, ONE, not(5));
        due("drop: assumed item 1", x.drop(ASSUMED, 1), 3);
        due("drop: node 0 as before", x.needs(0, 0), 1);
        due("drop: node 1 is free", x.needs(0, 1), 0);
        due("drop: node 2 as before", x.needs(0, 2), 4);
        due("drop: node 3 as before", x.needs(0, 3), 8);
        due("drop: what was 2 is 1 now", x.drop(ASSUMED, 1), 2);
        due("drop: node 2 is free", x.needs(0, 2), 0);
        due("drop: node 3 as before", x.needs(0, 3), 8);
        due("drop: no assumed item 2 any more", x.drop(ASSUMED, 2), NONE);
        due("drop: the claimed ones stay", x.failsOf(3), 32);
        due("drop: claimed item 0", x.drop(7, 0), 3);
        due("drop: what was 1 is 0 now", x.failsOf(0), 32);
        due("drop: what was 2 is 1 now", x.failsOf(1), 0);
        due("drop: what was 3 is 2 now", x.failsOf(2), 32);
        due("drop: there is no 3 now", x.failsOf(3), NONE);
        due("drop: the next number", x.item(CLAIMED, 1, 0, ONE, ALWAYS), 3);
        due("drop: the last one", x.drop(CLAIMED, 3), 3);
        due("drop: again the first", x.drop(CLAIMED, 0), 2);
        due("drop: the order is kept", x.failsOf(0), 0);
        due("drop: the order is kept", x.failsOf(1), 32);
        due("drop: to one", x.drop(CLAIMED, 1), 1);
        due("drop: to none", x.drop(CLAIMED, 0), 0);
        due("drop: from none", x.drop(CLAIMED, 0), NONE);
        due("drop: nothing fails now", x.fails(), 0);
    }

    private static void promise5DropRefused() {
        TrajectoryCheck x = Sample.small();
        int[] before = look(x);
        due("drop: no assumed item 2", x.drop(ASSUMED, 2), NONE);
        due("drop: no claimed item 3", x.drop(CLAIMED, 3), NONE);
        due("drop: assumed item 12", x.drop(ASSUMED, 12), NONE);
        for (int far : FAR) {
            due("drop: assumed item " + far, x.drop(ASSUMED, far), NONE);
            due("drop: claimed item " + far, x.drop(CLAIMED, far), NONE);
        }
        unchanged("drop refused", x, before);
    }

    private static void promise6Nodes() {
        TrajectoryCheck x = new TrajectoryCheck();
        for (int n = 0; n < 20; n++) {
            due("nodes()", x.nodes(), n);
            x.node(n % 2 == 0 ? INPUT : NOT, 0, 0);
        }
        due("nodes(): all", x.nodes(), 20);
    }

    private static void promise7Value() {
        TrajectoryCheck x = new TrajectoryCheck();
        int latch = x.node(LATCH, 0, 0);
        int turned = x.node(NOT, latch, 0);
        x.connect(latch, turned);
        values("value: nothing known", x, latch, 0, X, X, X, X);
        x.item(ASSUMED, 0, latch, 2, ALWAYS);
        values("value: a latch that turns, from 0", x, latch, 59, V0, V1, V0, V1);
        values("value: a latch that turns, from 1", x, latch, 4, V1, V0, V1, V0);
        values("value: its turned one, from 1", x, turned, 4, V0, V1, V0, V1);
        x.item(ASSUMED, 2, turned, 3, 4);
        values("value: an item that doesn't count", x, turned, 15, V0, V1, V0, V1);
        values("value: an item that agrees", x, turned, 20, V0, V1, V0, V1);
        values("value: T goes on to the latch", x, latch, 28, V1, V0, V1, T);
        values("value: T where two demands meet", x, turned, 28, V0, V1, T, T);
    }

    private static void promise7ValueRefused() {
        TrajectoryCheck x = Sample.small();
        int[] before = look(x);
        due("value: moment 4", x.value(4, 0, 0), BAD_ARG);
        due("value: moment -1", x.value(-1, 0, 0), BAD_ARG);
        due("value: no such node", x.value(0, 3, 0), BAD_ARG);
        due("value: assignment 64", x.value(0, 0, 64), BAD_ARG);
        due("value: assignment -1", x.value(0, 0, -1), BAD_ARG);
        due("definite: moment 4", x.definite(4, 0), BAD_ARG);
        due("definite: no such node", x.definite(0, 3), BAD_ARG);
        due("needs: moment 4", x.needs(4, 0), BAD_ARG);
        due("needs: no such node", x.needs(0, 3), BAD_ARG);
        due("cone: no such node", x.cone(3), BAD_ARG);
        due("failsOf: no such item", x.failsOf(3), NONE);
        due("without: no such item", x.without(2), NONE);
        for (int far : FAR) {
            due("value: moment " + far, x.value(far, 0, 0), BAD_ARG);
            due("value: node " + far, x.value(0, far, 0), BAD_ARG);
            due("value: assignment " + far, x.value(0, 0, far), BAD_ARG);
            due("definite: moment " + far, x.definite(far, 0), BAD_ARG);
            due("definite: node " + far, x.definite(0, far), BAD_ARG);
            due("needs: moment " + far, x.needs(far, 0), BAD_ARG);
            due("needs: node " + far, x.needs(0, far), BAD_ARG);
            due("cone: node " + far, x.cone(far), BAD_ARG);
            due("failsOf: item " + far, x.failsOf(far), NONE);
            due("without: item " + far, x.without(far), NONE);
        }
        unchanged("questions refused", x, before);
    }

    /** What is assumed goes forward to gates and latches, and never back to a gate's own nodes. */
    private static void promise7OrderOfAssuming() {
        TrajectoryCheck x = new TrajectoryCheck();
        x.node(LATCH, 0, 0);
        x.node(INPUT, 0, 0);
        x.node(AND, 0, 1);
        x.node(NOT, 2, 0);
        x.connect(0, 3);
        x.item(ASSUMED, 1, 2, ONE, ALWAYS);
        values("assuming: not the gate's own nodes", x, 1, 9, X, X, X, X);
        values("assuming: the gate", x, 2, 9, X, V1, V0, X);
        values("assuming: the gate behind it", x, 3, 9, X, V0, V1, X);
        values("assuming: the latch takes what was assumed", x, 0, 9, X, X, V0, V1);
        x.item(ASSUMED, 2, 3, ZERO, 0);
        values("assuming: the latch takes T", x, 0, 9, X, X, V0, T);
        values("assuming: T with X", x, 2, 9, X, V1, V0, V0);
        values("assuming: T at one moment alone", x, 3, 9, X, V0, T, V1);
        values("assuming: where the guard is 0", x, 0, 8, X, X, V0, V1);
    }

    private static void promise8Definite() {
        TrajectoryCheck x = new TrajectoryCheck();
        x.node(INPUT, 0, 0);
        x.node(NOT, 0, 0);
        due("definite: nothing known", x.definite(0, 0), 0);
        x.item(ASSUMED, 1, 0, 0, 1);
        due("definite: where the guard is 1", x.definite(1, 0), 32);
        due("definite: its not", x.definite(1, 1), 32);
        due("definite: another moment", x.definite(0, 0), 0);
        x.item(ASSUMED, 1, 0, ZERO, ALWAYS);
        due("definite: T is not definite", x.definite(1, 0), 48);
        due("definite: nor is its not", x.definite(1, 1), 48);
        x.item(ASSUMED, 2, 0, ONE, ALWAYS);
        due("definite: assignments that are idle count", x.definite(2, 0), 64);
        due("definite: edge moment 3", x.definite(3, 1), 0);
        due("definite: moment 4", x.definite(4, 1), BAD_ARG);
        due("definite: node 2", x.definite(3, 2), BAD_ARG);
    }

    private static void promise9Needs() {
        TrajectoryCheck x = new TrajectoryCheck();
        x.node(INPUT, 0, 0);
        x.node(INPUT, 0, 0);
        x.node(AND, 0, 1);
        x.node(XOR, 0, 1);
        due("needs: nothing known", x.needs(0, 2), 0);
        x.item(ASSUMED, 0, 0, 0, ALWAYS);
        x.item(ASSUMED, 0, 1, not(5), 3);
        due("needs: the demand's variable", x.needs(0, 0), 1);
        due("needs: the demand's and the guard's", x.needs(0, 1), 32 + 8);
        due("needs: of both nodes", x.needs(0, 2), 32 + 8 + 1);
        due("needs: of both nodes, xor", x.needs(0, 3), 32 + 8 + 1);
        x.item(ASSUMED, 1, 0, 4, ALWAYS);
        x.item(ASSUMED, 1, 1, 4, ALWAYS);
        due("needs: xor of two that are the same is always 0", x.needs(1, 3), 0);
        due("needs: and of two that are the same", x.needs(1, 2), 16);
        x.item(ASSUMED, 2, 0, ONE, 2);
        x.item(ASSUMED, 2, 0, ZERO, 2);
        due("needs: X and T are different values", x.needs(2, 0), 4);
        x.item(ASSUMED, 3, 0, ONE, ALWAYS);
        x.item(ASSUMED, 3, 0, ZERO, 1);
        due("needs: 1 and T are different values", x.needs(3, 0), 2);
    }

    private static void promise10Fails() {
        TrajectoryCheck x = new TrajectoryCheck();
        x.node(INPUT, 0, 0);
        x.node(INPUT, 0, 0);
        x.node(OR, 0, 1);
        due("fails: no claimed items", x.fails(), 0);
        x.item(CLAIMED, 0, 2, ONE, 0);
        due("fails: X may be the other one", x.fails(), 32);
        x.item(ASSUMED, 0, 0, 1, ALWAYS);
        due("fails: known where variable 1 is 1", x.fails(), 16);
        x.item(CLAIMED, 0, 0, not(1), 2);
        due("fails: just the other one", x.fails(), 40);
        x.item(CLAIMED, 0, 0, not(1), 2);
        due("fails: each assignment counts once", x.fails(), 40);
        x.item(CLAIMED, 3, 1, ZERO, NEVER);
        due("fails: a guard that is never 1", x.fails(), 40);
        x.item(ASSUMED, 3, 1, ONE, ALWAYS);
        x.item(ASSUMED, 3, 1, ZERO, 2);
        due("fails: idle assignments do not fail", x.fails(), 8);
        x.item(CLAIMED, 3, 1, ONE, ALWAYS);
        due("fails: what holds adds nothing", x.fails(), 8);
    }

    private static void promise11Idle() {
        TrajectoryCheck x = new TrajectoryCheck();
        x.node(INPUT, 0, 0);
        x.node(NOT, 0, 0);
        x.item(ASSUMED, 0, 0, 0, ALWAYS);
        due("idle: none", x.idle(), 0);
        x.item(ASSUMED, 0, 1, 1, 2);
        due("idle: a gate that is demanded otherwise", x.idle(), 16);
        x.item(ASSUMED, 3, 1, ZERO, 5);
        due("idle: the last moment, demanded once", x.idle(), 16);
        x.item(ASSUMED, 3, 1, ONE, 5);
        due("idle: some node at some moment", x.idle(), 40);
        x.item(CLAIMED, 0, 0, ZERO, ALWAYS);
        due("idle: claims make nothing idle", x.idle(), 40);
        x.item(ASSUMED, 2, 0, ONE, ALWAYS);
        x.item(ASSUMED, 2, 0, ZERO, ALWAYS);
        due("idle: all", x.idle(), 64);
        due("idle: so none fails", x.fails(), 0);
        due("idle: and there is no first", x.first(), NONE);
        idleBehindAnAnd();
    }

    /** A node's T makes the assignment idle even if no later node shows it. */
    private static void idleBehindAnAnd() {
        TrajectoryCheck x = withEveryPairOfValues();
        x.node(AND, 0, 1);
        due("idle: an and may hide T", x.value(0, 2, T + 4 * V0), V0);
        due("idle: seven of sixteen pairs have T", x.idle(), 28);
    }

    private static void promise12First() {
        TrajectoryCheck x = new TrajectoryCheck();
        x.node(INPUT, 0, 0);
        due("first: none", x.first(), NONE);
        x.item(CLAIMED, 0, 0, ONE, 5);
        due("first: variable 5", x.first(), 32);
        x.item(CLAIMED, 0, 0, ONE, 3);
        due("first: variable 3", x.first(), 8);
        x.item(ASSUMED, 1, 0, ONE, not(0));
        x.item(ASSUMED, 1, 0, ZERO, not(0));
        due("first: not an idle one", x.first(), 9);
        x.item(CLAIMED, 0, 0, ONE, ALWAYS);
        due("first: the least that is not idle", x.first(), 1);
        x.drop(ASSUMED, 0);
        due("first: 0", x.first(), 0);
        firstIsTheLast();
    }

    private static void firstIsTheLast() {
        TrajectoryCheck x = new TrajectoryCheck();
        x.node(INPUT, 0, 0);
        x.item(CLAIMED, 0, 0, ONE, ALWAYS);
        for (int variable = 0; variable < 6; variable++) {
            x.item(ASSUMED, 0, 0, ONE, not(variable));
        }
        due("first: all variables 1", x.first(), 63);
        due("first: the only one", x.fails(), 1);
        x.item(ASSUMED, 0, 0, ONE, 5);
        due("first: none is left", x.first(), NONE);
    }

    private static void promise13FailsOf() {
        TrajectoryCheck x = new TrajectoryCheck();
        x.node(INPUT, 0, 0);
        x.item(ASSUMED, 0, 0, ONE, 0);
        x.item(ASSUMED, 0, 0, ZERO, 1);
        x.item(CLAIMED, 0, 0, ONE, ALWAYS);
        x.item(CLAIMED, 0, 0, ZERO, ALWAYS);
        x.item(CLAIMED, 0, 0, 2, 3);
        x.item(CLAIMED, 1, 0, ONE, 4);
        x.item(CLAIMED, 0, 0, ONE, NEVER);
        // Variables 0 and 1: both 0 is X, the first alone 1, the second alone 0, both idle.
        due("failsOf: X or 0", x.failsOf(0), 32);
        due("failsOf: X or 1", x.failsOf(1), 32);
        due("failsOf: by variable 2 where 3 is 1", x.failsOf(2), 8 + 4 + 4);
        due("failsOf: another moment, not the idle ones", x.failsOf(3), 24);
        due("failsOf: never counts", x.failsOf(4), 0);
        due("failsOf: no item 5", x.failsOf(5), NONE);
        due("failsOf: no item -1", x.failsOf(-1), NONE);
        due("failsOf: assumed items don't count here", x.drop(ASSUMED, 0), 1);
        due("failsOf: X or 0, with fewer assumed", x.failsOf(0), 64);
    }

    private static void promise14Without() {
        TrajectoryCheck x = new TrajectoryCheck();
        x.node(INPUT, 0, 0);
        x.node(INPUT, 0, 0);
        x.item(CLAIMED, 0, 0, ONE, ALWAYS);
        x.item(ASSUMED, 0, 0, ONE, 0);
        due("without: more fail", x.without(0), 32);
        x.item(ASSUMED, 0, 0, ONE, 0);
        due("without: the other one is enough", x.without(0), 0);
        due("without: and the other way", x.without(1), 0);
        x.item(ASSUMED, 0, 0, ZERO, 1);
        due("without: 16 idle, so 16 fail", x.fails(), 32);
        due("without: what was idle holds", x.without(2), 0);
        x.item(CLAIMED, 0, 1, ONE, ALWAYS);
        due("without: 16 idle, so 48 fail", x.fails(), 48);
        due("without: what was idle fails", x.without(2), 16);
        x.item(ASSUMED, 0, 1, ZERO, 0);
        x.drop(CLAIMED, 0);
        x.item(ASSUMED, 0, 1, ONE, ALWAYS);
        due("without: 32 are idle", x.idle(), 32);
        due("without: none fails", x.fails(), 0);
        due("without: item 3 made them idle, the rest hold", x.without(3), 0);
        due("without: item 4 held the others", x.without(4), 48);
        due("without: no item 5", x.without(5), NONE);
        due("without: nothing was taken away", x.fails(), 0);
        due("without: nor became other", x.idle(), 32);
        due("without: nor was counted down", x.drop(ASSUMED, 4), 4);
        withoutThroughGates();
    }

    /** To assume less lets nodes be more, so that no circuit has an answer below 0 here. */
    private static void withoutThroughGates() {
        TrajectoryCheck x = new TrajectoryCheck();
        x.node(INPUT, 0, 0);
        x.node(NOT, 0, 0);
        x.node(AND, 0, 1);
        x.item(CLAIMED, 0, 2, ZERO, 3);
        x.item(ASSUMED, 0, 1, ZERO, 2);
        x.item(ASSUMED, 0, 2, ONE, 3);
        x.item(ASSUMED, 0, 0, ZERO, 0);
        // The and has a 0 where variable 2 or 0 is 1: idle if 3 is 1, and idle if both are 1.
        due("without: idle()", x.idle(), 24 + 8);
        due("without: fails()", x.fails(), 8);
        due("without: variable 0 alone keeps the and at 0", x.without(0), 8);
        due("without: what the and is demanded to be fails anyway", x.without(1), 0);
        due("without: variable 2 alone keeps the and at 0", x.without(2), 8);
        due("without: not changed by asking", x.fails(), 8);
    }

    private static void promise15Cone() {
        TrajectoryCheck x = new TrajectoryCheck();
        x.node(INPUT, 0, 0);
        x.node(LATCH, 0, 0);
        x.node(NOT, 0, 1);
        x.node(OR, 1, 2);
        x.node(LATCH, 0, 0);
        x.node(INPUT, 0, 0);
        due("cone: an input", x.cone(0), 1);
        due("cone: a latch connected to itself", x.cone(1), 2);
        due("cone: not has one node", x.cone(2), 1 + 4);
        due("cone: or has two", x.cone(3), 1 + 2 + 4 + 8);
        x.connect(1, 4);
        due("cone: through a latch", x.cone(1), 2 + 16);
        due("cone: through a gate and a latch", x.cone(3), 1 + 2 + 4 + 8 + 16);
        x.connect(4, 3);
        due("cone: round in a circle", x.cone(1), 31);
        due("cone: round in a circle, from another", x.cone(4), 31);
        due("cone: not what it leads to", x.cone(2), 1 + 4);
        x.connect(1, 5);
        due("cone: another connection", x.cone(1), 2 + 32);
        due("cone: no node 6", x.cone(6), BAD_ARG);
        due("cone: no node -1", x.cone(-1), BAD_ARG);
        longestWays();
    }

    /** Twenty latches in a row, each connected to the next: the way against the numbers is the longest. */
    private static void longestWays() {
        TrajectoryCheck x = new TrajectoryCheck();
        for (int n = 0; n < 20; n++) {
            x.node(LATCH, 0, 0);
        }
        for (int n = 0; n < 19; n++) {
            x.connect(n, n + 1);
        }
        due("cone: the longest way up", x.cone(0), (1 << 20) - 1);
        due("cone: the end of it", x.cone(19), 1 << 19);
        for (int n = 1; n < 20; n++) {
            x.connect(n, n - 1);
        }
        x.connect(0, 0);
        due("cone: the longest way down", x.cone(19), (1 << 20) - 1);
        due("cone: part of it", x.cone(9), (1 << 10) - 1);
    }

    private static void objectsApart() {
        TrajectoryCheck x = Sample.small();
        int[] before = look(x);
        TrajectoryCheck y = new TrajectoryCheck();
        y.node(LATCH, 0, 0);
        y.item(ASSUMED, 0, 0, ONE, ALWAYS);
        y.item(CLAIMED, 3, 0, ZERO, ALWAYS);
        due("objects apart: the other one", y.fails(), 64);
        unchanged("objects apart", x, before);
    }

    /** What an object made by Sample.small answers to questions on all that it holds. */
    private static int[] look(TrajectoryCheck x) {
        int[] answers = new int[160];
        int n = 0;
        answers[n++] = x.nodes();
        answers[n++] = x.fails();
        answers[n++] = x.idle();
        answers[n++] = x.first();
        for (int k = 0; k < 5; k++) {
            answers[n++] = x.failsOf(k);
            answers[n++] = x.without(k);
        }
        for (int node = 0; node < 5; node++) {
            answers[n++] = x.cone(node);
            for (int t = 0; t < 4; t++) {
                answers[n++] = x.definite(t, node);
                answers[n++] = x.needs(t, node);
                for (int a = 0; a < 64; a += 21) {
                    answers[n++] = x.value(t, node, a);
                }
            }
        }
        return answers;
    }

    private static void unchanged(String what, TrajectoryCheck x, int[] before) {
        due(what + ": all is as before", Arrays.equals(before, look(x)) ? 1 : 0, 1);
    }
}
