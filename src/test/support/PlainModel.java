import java.util.ArrayList;
import java.util.List;

/**
 * The document's words taken one by one, for one assignment at a time and with lists:
 * a second reading that shares no idea with the class, to be compared with it.
 */
final class PlainModel {
    private static final int BAD_ARG = -1;
    private static final int FULL = -2;
    private static final int NONE = -4;

    private static final class Node {
        int kind;
        int i;
        int j;
    }

    private static final class Item {
        int t;
        int node;
        int demand;
        int guard;
    }

    private final List<Node> circuit = new ArrayList<>();
    private final List<Item> assumed = new ArrayList<>();
    private final List<Item> claimedItems = new ArrayList<>();

    int node(int kind, int i, int j) {
        if (kind < 0 || kind > 5) {
            return BAD_ARG;
        }
        if (kind != 0 && kind != 5 && !has(i)) {
            return BAD_ARG;
        }
        if (kind != 0 && kind != 1 && kind != 5 && !has(j)) {
            return BAD_ARG;
        }
        if (circuit.size() == 20) {
            return FULL;
        }
        Node node = new Node();
        node.kind = kind;
        node.i = kind == 5 ? circuit.size() : i;
        node.j = j;
        circuit.add(node);
        return circuit.size() - 1;
    }

    int connect(int k, int i) {
        if (!has(i) || !has(k) || circuit.get(k).kind != 5) {
            return BAD_ARG;
        }
        int before = circuit.get(k).i;
        circuit.get(k).i = i;
        return before;
    }

    int item(int claimed, int t, int node, int demand, int guard) {
        if (t < 0 || t > 3 || !has(node) || demand < 0 || demand > 13 || guard < 0 || guard > 13) {
            return BAD_ARG;
        }
        List<Item> items = sort(claimed);
        if (items.size() == 12) {
            return FULL;
        }
        Item item = new Item();
        item.t = t;
        item.node = node;
        item.demand = demand;
        item.guard = guard;
        items.add(item);
        return items.size() - 1;
    }

    int drop(int claimed, int k) {
        List<Item> items = sort(claimed);
        if (k < 0 || k >= items.size()) {
            return NONE;
        }
        items.remove(k);
        return items.size();
    }

    int nodes() {
        return circuit.size();
    }

    int value(int t, int node, int assignment) {
        if (t < 0 || t > 3 || !has(node) || assignment < 0 || assignment > 63) {
            return BAD_ARG;
        }
        return code(trajectory(assignment)[t][node]);
    }

    int definite(int t, int node) {
        if (t < 0 || t > 3 || !has(node)) {
            return BAD_ARG;
        }
        int count = 0;
        for (int a = 0; a < 64; a++) {
            int value = value(t, node, a);
            count += value == 1 || value == 2 ? 1 : 0;
        }
        return count;
    }

    int needs(int t, int node) {
        if (t < 0 || t > 3 || !has(node)) {
            return BAD_ARG;
        }
        int[] values = new int[64];
        for (int a = 0; a < 64; a++) {
            values[a] = value(t, node, a);
        }
        int set = 0;
        for (int k = 0; k < 6; k++) {
            boolean differs = false;
            for (int a = 0; a < 64; a++) {
                differs |= values[a] != values[a ^ 1 << k];
            }
            set += differs ? 1 << k : 0;
        }
        return set;
    }

    int fails() {
        int count = 0;
        for (int a = 0; a < 64; a++) {
            count += failsIn(a) ? 1 : 0;
        }
        return count;
    }

    int idle() {
        int count = 0;
        for (int a = 0; a < 64; a++) {
            count += isIdle(trajectory(a)) ? 1 : 0;
        }
        return count;
    }

    int first() {
        for (int a = 0; a < 64; a++) {
            if (failsIn(a)) {
                return a;
            }
        }
        return NONE;
    }

    int failsOf(int k) {
        if (k < 0 || k >= claimedItems.size()) {
            return NONE;
        }
        int count = 0;
        for (int a = 0; a < 64; a++) {
            boolean[][][] may = trajectory(a);
            count += !isIdle(may) && isBroken(claimedItems.get(k), may, a) ? 1 : 0;
        }
        return count;
    }

    int without(int k) {
        if (k < 0 || k >= assumed.size()) {
            return NONE;
        }
        int before = fails();
        Item taken = assumed.remove(k);
        int after = fails();
        assumed.add(k, taken);
        return after - before;
    }

    int cone(int node) {
        if (!has(node)) {
            return BAD_ARG;
        }
        boolean[] seen = new boolean[circuit.size()];
        visit(node, seen);
        int set = 0;
        for (int i = 0; i < seen.length; i++) {
            set += seen[i] ? 1 << i : 0;
        }
        return set;
    }

    private void visit(int number, boolean[] seen) {
        if (seen[number]) {
            return;
        }
        seen[number] = true;
        Node node = circuit.get(number);
        if (node.kind != 0) {
            visit(node.i, seen);
        }
        if (node.kind >= 2 && node.kind <= 4) {
            visit(node.j, seen);
        }
    }

    private boolean has(int node) {
        return node >= 0 && node < circuit.size();
    }

    private List<Item> sort(int claimed) {
        return claimed == 0 ? assumed : claimedItems;
    }

    private static int literal(int literal, int assignment) {
        switch (literal) {
            case 12:
                return 0;
            case 13:
                return 1;
            default:
                int bit = (assignment & 1 << literal % 6) == 0 ? 0 : 1;
                return literal < 6 ? bit : 1 - bit;
        }
    }

    /** By moment and node: whether it may be 0, and whether it may be 1. */
    private boolean[][][] trajectory(int assignment) {
        boolean[][][] may = new boolean[4][circuit.size()][];
        for (int t = 0; t < 4; t++) {
            for (int n = 0; n < circuit.size(); n++) {
                may[t][n] = own(may, t, circuit.get(n));
                for (Item item : assumed) {
                    if (item.t == t && item.node == n && literal(item.guard, assignment) == 1) {
                        may[t][n][1 - literal(item.demand, assignment)] = false;
                    }
                }
            }
        }
        return may;
    }

    private static boolean[] own(boolean[][][] may, int t, Node node) {
        if (node.kind == 0 || node.kind == 5 && t == 0) {
            return new boolean[] {true, true};
        }
        if (node.kind == 5) {
            return may[t - 1][node.i].clone();
        }
        boolean[] result = new boolean[2];
        for (int u = 0; u <= 1; u++) {
            for (int v = 0; v <= 1; v++) {
                possible(result, node.kind, u, v, may[t][node.i], node.kind == 1 ? null : may[t][node.j]);
            }
        }
        return result;
    }

    /** Marks what the gate may be because its nodes may be u and v; and and or need but one node to be known. */
    private static void possible(boolean[] result, int kind, int u, int v, boolean[] first, boolean[] second) {
        if (kind == 1) {
            result[1 - u] |= first[u];
            return;
        }
        int decides = kind == 2 ? 0 : 1;
        if (kind == 4) {
            result[u ^ v] |= first[u] && second[v];
        } else if (u == decides || v == decides) {
            result[decides] |= u == decides && first[u] || v == decides && second[v];
        } else {
            result[1 - decides] |= first[u] && second[v];
        }
    }

    private static int code(boolean[] may) {
        if (may[0] && may[1]) {
            return 0;
        }
        if (may[0]) {
            return 1;
        }
        return may[1] ? 2 : 3;
    }

    private static boolean isIdle(boolean[][][] may) {
        for (boolean[][] moment : may) {
            for (boolean[] node : moment) {
                if (code(node) == 3) {
                    return true;
                }
            }
        }
        return false;
    }

    private static boolean isBroken(Item item, boolean[][][] may, int assignment) {
        int other = 1 - literal(item.demand, assignment);
        return literal(item.guard, assignment) == 1 && may[item.t][item.node][other];
    }

    private boolean failsIn(int assignment) {
        boolean[][][] may = trajectory(assignment);
        if (isIdle(may)) {
            return false;
        }
        for (Item item : claimedItems) {
            if (isBroken(item, may, assignment)) {
                return true;
            }
        }
        return false;
    }
}
