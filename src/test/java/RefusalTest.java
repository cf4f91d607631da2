import java.util.Set;
import java.util.TreeSet;
import java.util.function.IntFunction;
import java.util.function.ToIntFunction;

/**
 * "A refused call answers the code named and changes nothing." Each argument of each call in turn is
 * out of its range, the others in theirs, on the empty, a small and the full object; after each refused
 * call all others answer as before it. And each argument that is in its range is taken.
 */
public final class RefusalTest {
    private static final int BAD_ARG = -1;
    private static final int FULL = -2;
    private static final int NONE = -4;

    // 0 is for assumed and each other int for claimed, those too whose lower bits are all 0.
    private static final int[] SORTS = {0, 1, -1, 1 << 16, Integer.MIN_VALUE, Integer.MAX_VALUE};

    private static Sample sample;
    private static Refusals refusals;

    public static void main(String[] args) {
        for (Sample each : Sample.all()) {
            sample = each;
            refusals = new Refusals(each);
            node();
            nodeFull();
            connect();
            item();
            itemFull();
            drop();
            questionsOfPlaces();
            questionsOfItems();
            cone();
            taken();
        }
        Due.end();
    }

    /** Numbers that are not low to high: the first on both sides, the ends of int, and such as wrap around into the range. */
    private static Set<Integer> outside(int low, int high) {
        Set<Integer> numbers = new TreeSet<>();
        numbers.add(low - 1);
        numbers.add(high + 1);
        numbers.add(Integer.MIN_VALUE);
        numbers.add(Integer.MIN_VALUE + 1);
        numbers.add(Integer.MAX_VALUE);
        numbers.add(Integer.MAX_VALUE - 1);
        for (int bits : new int[] {5, 6, 8, 16}) {
            numbers.add(low + (1 << bits));
            numbers.add(high - (1 << bits));
        }
        numbers.removeIf(number -> number >= low && number <= high);
        return numbers;
    }

    private static void refusedOutside(int low, int high, int code, String name, IntFunction<ToIntFunction<TrajectoryCheck>> call) {
        for (int number : outside(low, high)) {
            refusals.due(name.replace("?", "" + number), call.apply(number), code);
        }
    }

    private static int lastNode() {
        return sample.nodes() - 1;
    }

    private static int itemsOf(int claimed) {
        return claimed == 0 ? sample.assumed() : sample.claimed();
    }

    private static void node() {
        refusedOutside(0, 5, BAD_ARG, "node(?, 0, 0)", kind -> x -> x.node(kind, 0, 0));
        for (int gate = 1; gate <= 4; gate++) {
            int kind = gate;
            refusedOutside(0, lastNode(), BAD_ARG, "node(" + kind + ", ?, 0)", i -> x -> x.node(kind, i, 0));
        }
        for (int gate = 2; gate <= 4; gate++) {
            int kind = gate;
            refusedOutside(0, lastNode(), BAD_ARG, "node(" + kind + ", 0, ?)", j -> x -> x.node(kind, 0, j));
        }
    }

    private static void nodeFull() {
        if (sample.nodes() < 20) {
            return;
        }
        for (int each = 0; each <= 5; each++) {
            int kind = each;
            refusals.due("node(" + kind + ", 0, 0)", x -> x.node(kind, 0, 0), FULL);
            refusals.due("node(" + kind + ", 19, 19)", x -> x.node(kind, 19, 19), FULL);
        }
        for (int stray : outside(0, 19)) {
            refusals.due("node(0, " + stray + ", 0)", x -> x.node(0, stray, 0), FULL);
            refusals.due("node(1, 0, " + stray + ")", x -> x.node(1, 0, stray), FULL);
            refusals.due("node(5, 0, " + stray + ")", x -> x.node(5, 0, stray), FULL);
        }
    }

    private static void connect() {
        int latch = sample.latches().isEmpty() ? 0 : sample.latches().get(0);
        refusedOutside(0, lastNode(), BAD_ARG, "connect(" + latch + ", ?)", i -> x -> x.connect(latch, i));
        refusedOutside(0, lastNode(), BAD_ARG, "connect(?, 0)", k -> x -> x.connect(k, 0));
        for (int node = 0; node < sample.nodes(); node++) {
            int k = node;
            if (!sample.latches().contains(k)) {
                refusals.due("connect(" + k + ", 0)", x -> x.connect(k, 0), BAD_ARG);
                refusals.due("connect(" + k + ", " + k + ")", x -> x.connect(k, k), BAD_ARG);
            }
        }
    }

    private static void item() {
        for (int sort : SORTS) {
            String name = "item(" + sort + ", ";
            refusedOutside(0, 3, BAD_ARG, name + "?, 0, 0, 0)", t -> x -> x.item(sort, t, 0, 0, 0));
            refusedOutside(0, lastNode(), BAD_ARG, name + "0, ?, 0, 0)", node -> x -> x.item(sort, 0, node, 0, 0));
            refusedOutside(0, 13, BAD_ARG, name + "0, 0, ?, 0)", demand -> x -> x.item(sort, 0, 0, demand, 0));
            refusedOutside(0, 13, BAD_ARG, name + "0, 0, 0, ?)", guard -> x -> x.item(sort, 0, 0, 0, guard));
        }
    }

    private static void itemFull() {
        for (int sort : SORTS) {
            if (itemsOf(sort) == 12) {
                refusals.due("item(" + sort + ", 0, 0, 0, 0)", x -> x.item(sort, 0, 0, 0, 0), FULL);
                refusals.due("item(" + sort + ", 3, 19, 13, 13)", x -> x.item(sort, 3, lastNode(), 13, 13), FULL);
            }
        }
    }

    private static void drop() {
        for (int sort : SORTS) {
            refusedOutside(0, itemsOf(sort) - 1, NONE, "drop(" + sort + ", ?)", k -> x -> x.drop(sort, k));
        }
    }

    private static void questionsOfPlaces() {
        refusedOutside(0, 3, BAD_ARG, "value(?, 0, 0)", t -> x -> x.value(t, 0, 0));
        refusedOutside(0, lastNode(), BAD_ARG, "value(0, ?, 0)", node -> x -> x.value(0, node, 0));
        refusedOutside(0, lastNode(), BAD_ARG, "value(3, ?, 63)", node -> x -> x.value(3, node, 63));
        refusedOutside(0, 63, BAD_ARG, "value(0, 0, ?)", assignment -> x -> x.value(0, 0, assignment));
        refusedOutside(0, 3, BAD_ARG, "definite(?, 0)", t -> x -> x.definite(t, 0));
        refusedOutside(0, lastNode(), BAD_ARG, "definite(1, ?)", node -> x -> x.definite(1, node));
        refusedOutside(0, 3, BAD_ARG, "needs(?, 0)", t -> x -> x.needs(t, 0));
        refusedOutside(0, lastNode(), BAD_ARG, "needs(1, ?)", node -> x -> x.needs(1, node));
    }

    private static void questionsOfItems() {
        refusedOutside(0, sample.claimed() - 1, NONE, "failsOf(?)", k -> x -> x.failsOf(k));
        refusedOutside(0, sample.assumed() - 1, NONE, "without(?)", k -> x -> x.without(k));
        // Where both sorts lie in one array, these would be items of the other sort.
        for (int k = -12; k < 0; k++) {
            int item = k;
            refusals.due("failsOf(" + k + ")", x -> x.failsOf(item), NONE);
        }
        for (int k = 12; k < 24; k++) {
            int item = k;
            refusals.due("without(" + k + ")", x -> x.without(item), NONE);
        }
    }

    private static void cone() {
        refusedOutside(0, lastNode(), BAD_ARG, "cone(?)", node -> x -> x.cone(node));
    }

    private static void taken() {
        for (int node = 0; node < sample.nodes(); node++) {
            takenOfNode(node);
        }
        for (int latch : sample.latches()) {
            taken("connect(" + latch + ", 0)", sample.make().connect(latch, 0));
            taken("connect(" + latch + ", the last)", sample.make().connect(latch, lastNode()));
        }
        for (int sort : SORTS) {
            for (int k = 0; k < itemsOf(sort); k++) {
                taken("drop(" + sort + ", " + k + ")", sample.make().drop(sort, k));
            }
        }
        for (int k = 0; k < sample.claimed(); k++) {
            taken("failsOf(" + k + ")", sample.make().failsOf(k));
        }
        for (int k = 0; k < sample.assumed(); k++) {
            taken("without(" + k + ")", sample.make().without(k));
        }
    }

    private static void takenOfNode(int node) {
        TrajectoryCheck x = sample.make();
        taken("cone(" + node + ")", x.cone(node));
        for (int t = 0; t <= 3; t++) {
            taken("definite(" + t + ", " + node + ")", x.definite(t, node));
            taken("needs(" + t + ", " + node + ")", x.needs(t, node));
            for (int assignment = 0; assignment <= 63; assignment++) {
                taken("value(" + t + ", " + node + ", " + assignment + ")", x.value(t, node, assignment));
            }
        }
    }

    private static void taken(String call, int got) {
        Due.due("on the " + sample.name() + " object " + call + " is taken", got >= 0 ? 1 : 0, 1);
    }
}
