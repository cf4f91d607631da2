import java.util.ArrayList;
import java.util.List;

/**
 * Items among others: an object from which an item was taken away answers as one that never had it,
 * the numbers of the items behind it included, and without has told beforehand how many more fail.
 * The objects come from a fixed sequence of numbers, so that every run of the test is the same.
 */
public final class DropTest {
    private static final int OBJECTS = 150;
    private static final int NONE = -4;
    private static final int NOTHING = -1;

    private static long state;

    public static void main(String[] args) {
        for (int object = 0; object < OBJECTS; object++) {
            for (int claimed = 0; claimed <= 1; claimed++) {
                int items = made(object, claimed, NOTHING).items[claimed];
                for (int k = 0; k < items; k++) {
                    dropAsIfNeverAdded(object, claimed, k, items);
                }
            }
            int assumed = made(object, 0, NOTHING).items[0];
            for (int k = 0; k < assumed; k++) {
                withoutTellsWhatDropDoes(object, k);
            }
            Due.due("object " + object + ": without(" + assumed + ")", made(object, 0, NOTHING).check.without(assumed), NONE);
        }
        Due.end();
    }

    private static final class Made {
        final TrajectoryCheck check = new TrajectoryCheck();
        final int[] items = {0, 0};
    }

    private static void dropAsIfNeverAdded(int object, int claimed, int k, int items) {
        String where = "object " + object + ", drop(" + claimed + ", " + k + ")";
        TrajectoryCheck dropped = made(object, claimed, NOTHING).check;
        Due.due(where, dropped.drop(claimed, k), items - 1);
        TrajectoryCheck never = made(object, claimed, k).check;
        List<Integer> got = answers(dropped);
        List<Integer> want = answers(never);
        for (int n = 0; n < want.size(); n++) {
            Due.due(where + ", then question " + n, got.get(n), want.get(n));
        }
        Due.due(where + ", then the next number", dropped.item(claimed, 3, 0, 13, 13), items - 1);
    }

    private static void withoutTellsWhatDropDoes(int object, int k) {
        String where = "object " + object + ", without(" + k + ")";
        TrajectoryCheck x = made(object, 0, NOTHING).check;
        int before = x.fails();
        int told = x.without(k);
        Due.due(where + " leaves fails() as it is", x.fails(), before);
        x.drop(0, k);
        Due.due(where, told, x.fails() - before);
        // To assume less only lets nodes be more, so that what failed still does.
        Due.due(where + " is not below 0", told >= 0 ? 1 : 0, 1);
    }

    /** 0 to below - 1, from a linear congruential sequence. */
    private static int pick(int below) {
        state = state * 6364136223846793005L + 1442695040888963407L;
        return (int) ((state >>> 33) % below);
    }

    /** The object of this number, made without the item of this sort and number. */
    private static Made made(int object, int leftOutSort, int leftOut) {
        Made made = new Made();
        state = object;
        int nodes = 1 + pick(object % 3 == 0 ? 20 : 5);
        for (int n = 0; n < nodes; n++) {
            int kind = n == 0 ? 5 * pick(2) : pick(6);
            made.check.node(kind, pick(n + 1) % (n == 0 ? 1 : n), pick(n + 1) % (n == 0 ? 1 : n));
        }
        for (int n = 0; n < nodes; n++) {
            made.check.connect(n, pick(nodes));
        }
        addItems(made, 0, 1 + pick(12), nodes, leftOutSort == 0 ? leftOut : NOTHING);
        addItems(made, 1, 1 + pick(12), nodes, leftOutSort == 1 ? leftOut : NOTHING);
        return made;
    }

    private static void addItems(Made made, int claimed, int count, int nodes, int leftOut) {
        for (int k = 0; k < count; k++) {
            int t = pick(4);
            int node = pick(nodes);
            int demand = pick(14);
            int guard = pick(4) == 0 ? 13 : pick(14);
            if (k != leftOut) {
                made.check.item(claimed, t, node, demand, guard);
                made.items[claimed]++;
            }
        }
    }

    /** In some three hundred calls all decisions, by item too, and of each place what its node is. */
    private static List<Integer> answers(TrajectoryCheck x) {
        List<Integer> answers = new ArrayList<>(List.of(x.nodes(), x.fails(), x.idle(), x.first()));
        for (int k = 0; k <= 12; k++) {
            answers.add(x.failsOf(k));
            answers.add(x.without(k));
        }
        for (int node = 0; node < 20; node++) {
            for (int t = 0; t < 4; t++) {
                answers.add(x.definite(t, node));
                answers.add(x.needs(t, node));
                answers.add(x.value(t, node, (13 * node + 21 * t) % 64));
            }
        }
        return answers;
    }
}
