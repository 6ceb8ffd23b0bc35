/** Promise 14. */
public final class CountsTest {
    private static final Check check = new Check();

    public static void main(String[] args) {
        leastAndGreatest();
        queriesChangeNothing();
        refusedCallsDoNotCount();
        otherCallsDoNotCount();
        check.end();
    }

    private static void counts(HeftPlanner x, int tasks, int edges) {
        check.due("taskCount()", x.taskCount(), tasks);
        check.due("edgeCount()", x.edgeCount(), edges);
    }

    // "the number of admitted tasks (0..CAP)", "the number of admitted edges (0..32)"
    private static void leastAndGreatest() {
        for (int capacity : new int[] {1, 2, 15, 16}) {
            HeftPlanner x = new HeftPlanner(1, capacity);
            counts(x, 0, 0);
            for (int t = 1; t <= 17; t++) {
                x.addTask(1, 0, 0, 0);
                counts(x, Math.min(t, capacity), 0);
            }
        }
        HeftPlanner x = Sample.equalTasks(2, 16, 3);
        int edges = 0;
        for (int u = 0; u < 16; u++) {
            for (int v = u + 1; v < 16; v++) {
                x.addEdge(u, v, 1);
                edges = Math.min(edges + 1, 32);
                counts(x, 16, edges);
            }
        }
    }

    // "Never refused; nothing changes."
    private static void queriesChangeNothing() {
        for (State state : State.values()) {
            int edges = state.start.get().edgeCount();
            Refusal.unchanged(check, "the counts, " + state, state.start, x -> counts(x, state.tasks, edges));
        }
    }

    private static void refusedCallsDoNotCount() {
        HeftPlanner x = new HeftPlanner(2, 3);
        x.addTask(0, 1, 1, 1);
        counts(x, 0, 0);
        x.addTask(1, 1, 1, 1);
        x.addEdge(0, 1, 1);
        counts(x, 1, 0);
        x.addTask(1, 1, 1, 1);
        x.addTask(1, 1, 1, 1);
        x.addTask(1, 1, 1, 1);
        counts(x, 3, 0);
        x.addEdge(0, 1, 1);
        counts(x, 3, 1);
        x.addEdge(0, 1, 1);
        x.addEdge(1, 0, 1);
        x.addEdge(2, 2, 1);
        x.addEdge(1, 2, 101);
        counts(x, 3, 1);
    }

    private static void otherCallsDoNotCount() {
        HeftPlanner x = Sample.fullOfEdges(9);
        x.plan();
        counts(x, 9, 32);
        x.run(50);
        counts(x, 9, 32);
        x.setDelay(0, 5);
        counts(x, 9, 32);
        x.addTask(1, 1, 1, 1);
        counts(x, 10, 32);
    }
}
