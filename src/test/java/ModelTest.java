/**
 * Runs of up to 512 calls on one object, each answer compared with the one of PlainModel.
 * The calls come from a fixed sequence of numbers, so that every run of the test is the same.
 */
public final class ModelTest {
    private static final int RUNS = 200;
    private static final int CALLS = 512;

    private static long state = 1;
    private static int enoughNodes;

    public static void main(String[] args) {
        for (int run = 0; run < RUNS; run++) {
            TrajectoryCheck x = new TrajectoryCheck();
            PlainModel model = new PlainModel();
            // Most circuits stay small, so that items meet on the same nodes.
            enoughNodes = 3 + pick(run % 3 == 0 ? 18 : 5);
            int building = 10 + pick(60);
            for (int call = 0; call < CALLS; call++) {
                String where = "run " + run + ", call " + call + ": ";
                boolean build = call < building || pick(8) == 0;
                if (build) {
                    change(where, x, model);
                } else {
                    ask(where, x, model);
                }
            }
        }
        Due.end();
    }

    /** 0 to below - 1, from a linear congruential sequence. */
    private static int pick(int below) {
        state = state * 6364136223846793005L + 1442695040888963407L;
        return (int) ((state >>> 33) % below);
    }

    /** Mostly 0 to below - 1, and now and then a number at the edge or far off. */
    private static int near(int below) {
        switch (pick(40)) {
            case 0:
                return -1;
            case 1:
                return below;
            case 2:
                return pick(2) == 0 ? Integer.MIN_VALUE : Integer.MAX_VALUE;
            default:
                return below > 0 ? pick(below) : 0;
        }
    }

    private static int aLiteral() {
        // 12 and 13 more often than one in seven: else hardly an item counts always.
        return pick(3) == 0 ? 12 + pick(2) : near(14);
    }

    private static void change(String where, TrajectoryCheck x, PlainModel model) {
        int nodes = model.nodes();
        switch (pick(9)) {
            case 0:
            case 1:
            case 2:
                if (nodes < enoughNodes || nodes == 20) {
                    changeNode(where, x, model);
                } else {
                    changeItem(where, x, model);
                }
                break;
            case 3:
                int k = near(nodes);
                int i = near(nodes);
                Due.due(where + "connect(" + k + ", " + i + ")", x.connect(k, i), model.connect(k, i));
                break;
            case 4:
                int sort = pick(2);
                int dropped = near(12);
                Due.due(where + "drop(" + sort + ", " + dropped + ")", x.drop(sort, dropped), model.drop(sort, dropped));
                break;
            default:
                changeItem(where, x, model);
                break;
        }
    }

    private static void changeNode(String where, TrajectoryCheck x, PlainModel model) {
        int kind = near(6);
        int i = near(model.nodes());
        int j = near(model.nodes());
        Due.due(where + "node(" + kind + ", " + i + ", " + j + ")", x.node(kind, i, j), model.node(kind, i, j));
    }

    private static void changeItem(String where, TrajectoryCheck x, PlainModel model) {
        int claimed = pick(8) < 5 ? 0 : 7 * pick(3) - 6;
        int t = near(4);
        int node = near(model.nodes());
        int demand = aLiteral();
        int guard = aLiteral();
        String call = "item(" + claimed + ", " + t + ", " + node + ", " + demand + ", " + guard + ")";
        Due.due(where + call, x.item(claimed, t, node, demand, guard), model.item(claimed, t, node, demand, guard));
    }

    private static void ask(String where, TrajectoryCheck x, PlainModel model) {
        int t = near(4);
        int node = near(model.nodes());
        int k = near(12);
        int a = near(64);
        switch (pick(11)) {
            case 0:
                Due.due(where + "nodes()", x.nodes(), model.nodes());
                break;
            case 1:
            case 2:
                Due.due(where + "value(" + t + ", " + node + ", " + a + ")", x.value(t, node, a), model.value(t, node, a));
                break;
            case 3:
                Due.due(where + "definite(" + t + ", " + node + ")", x.definite(t, node), model.definite(t, node));
                break;
            case 4:
                Due.due(where + "needs(" + t + ", " + node + ")", x.needs(t, node), model.needs(t, node));
                break;
            case 5:
                Due.due(where + "fails()", x.fails(), model.fails());
                break;
            case 6:
                Due.due(where + "idle()", x.idle(), model.idle());
                break;
            case 7:
                Due.due(where + "first()", x.first(), model.first());
                break;
            case 8:
                Due.due(where + "failsOf(" + k + ")", x.failsOf(k), model.failsOf(k));
                break;
            case 9:
                Due.due(where + "without(" + k + ")", x.without(k), model.without(k));
                break;
            default:
                Due.due(where + "cone(" + node + ")", x.cone(node), model.cone(node));
                break;
        }
    }
}
