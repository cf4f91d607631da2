import java.util.List;
import java.util.function.Supplier;

/** Objects to try calls on: the empty one, a small one and the full one, with what each of them has. */
record Sample(String name, Supplier<TrajectoryCheck> maker, int nodes, List<Integer> latches, int assumed, int claimed) {
    private static final int INPUT = 0;
    private static final int NOT = 1;
    private static final int AND = 2;
    private static final int OR = 3;
    private static final int XOR = 4;
    private static final int LATCH = 5;

    static List<Sample> all() {
        return List.of(
            new Sample("empty", TrajectoryCheck::new, 0, List.of(), 0, 0),
            new Sample("small", Sample::small, 3, List.of(1), 2, 3),
            new Sample("full", Sample::full, 20, List.of(0, 3, 8, 14, 19), 12, 12));
    }

    TrajectoryCheck make() {
        return maker.get();
    }

    /** An input, a latch and a gate that it is connected to, two assumed items and three claimed ones. */
    static TrajectoryCheck small() {
        TrajectoryCheck x = new TrajectoryCheck();
        x.node(INPUT, 0, 0);
        x.node(LATCH, 0, 0);
        x.node(XOR, 0, 1);
        x.connect(1, 2);
        x.item(0, 0, 0, 0, 1);
        x.item(0, 0, 1, 2, 13);
        x.item(1, 0, 2, 3, 4);
        x.item(1, 1, 1, 0, 8);
        x.item(1, 2, 1, 5, 5);
        return x;
    }

    /** Twenty nodes of all kinds, and twelve items of each sort, the outermost places among theirs. */
    static TrajectoryCheck full() {
        TrajectoryCheck x = new TrajectoryCheck();
        int[][] nodes = {
            {LATCH, 0, 0}, {INPUT, 0, 0}, {INPUT, 0, 0}, {LATCH, 0, 0}, {NOT, 1, 0},
            {AND, 1, 2}, {OR, 4, 3}, {XOR, 5, 6}, {LATCH, 0, 0}, {INPUT, 0, 0},
            {AND, 8, 9}, {XOR, 10, 7}, {OR, 0, 11}, {NOT, 12, 0}, {LATCH, 0, 0},
            {INPUT, 0, 0}, {XOR, 15, 14}, {AND, 13, 16}, {OR, 17, 3}, {LATCH, 0, 0}};
        for (int[] node : nodes) {
            x.node(node[0], node[1], node[2]);
        }
        int[][] connections = {{0, 19}, {3, 7}, {8, 0}, {19, 18}};
        for (int[] connection : connections) {
            x.connect(connection[0], connection[1]);
        }
        int[][] assumed = {
            {0, 0, 0, 13}, {0, 1, 1, 13}, {0, 2, 8, 3}, {0, 3, 13, 5}, {0, 19, 4, 2}, {1, 1, 5, 13},
            {1, 2, 13, 6}, {1, 9, 12, 13}, {2, 1, 12, 7}, {2, 12, 10, 0}, {3, 15, 13, 13}, {3, 19, 12, 4}};
        int[][] claimed = {
            {0, 0, 0, 9}, {0, 5, 1, 0}, {0, 7, 13, 5}, {1, 0, 4, 2}, {1, 3, 3, 10}, {1, 6, 13, 11},
            {1, 18, 7, 1}, {2, 13, 4, 0}, {2, 3, 12, 3}, {3, 12, 13, 8}, {3, 15, 12, 2}, {3, 19, 13, 4}};
        addItems(x, 0, assumed);
        addItems(x, 1, claimed);
        return x;
    }

    private static void addItems(TrajectoryCheck x, int claimed, int[][] items) {
        for (int[] item : items) {
            x.item(claimed, item[0], item[1], item[2], item[3]);
        }
    }
}
