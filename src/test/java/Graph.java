import java.util.ArrayList;
import java.util.List;

/** A task graph that looks like chance, from the least size to the greatest. */
final class Graph {
    final int processors;
    final int[][] costs;
    final List<int[]> edges = new ArrayList<>();

    Graph(FixedNumbers numbers) {
        processors = numbers.between(1, 4);
        costs = new int[numbers.between(1, 16)][4];
        int greatestCost = numbers.below(2) == 0 ? 4 : 100;
        int greatestComm = numbers.below(2) == 0 ? 4 : 100;
        for (int[] c : costs) {
            for (int p = 0; p < 4; p++) {
                c[p] = numbers.between(1, greatestCost);
            }
        }
        boolean upwards = numbers.below(2) == 0;
        for (int u = 0; u < costs.length; u++) {
            for (int v = u + 1; v < costs.length; v++) {
                if (numbers.below(4) == 0 && edges.size() < 32) {
                    edges.add(new int[] {upwards ? u : v, upwards ? v : u, numbers.between(0, greatestComm)});
                }
            }
        }
    }

    HeftPlanner planner() {
        HeftPlanner x = new HeftPlanner(processors, costs.length);
        for (int[] c : costs) {
            x.addTask(c[0], c[1], c[2], c[3]);
        }
        for (int[] e : edges) {
            x.addEdge(e[0], e[1], e[2]);
        }
        return x;
    }
}
