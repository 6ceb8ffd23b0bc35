/** Promise 14. */
public final class CountsTest {
    private static final Check check = new Check();

    public static void main(String[] args) {
        HeftPlanner x = new HeftPlanner(2, 3);
        counts(x, 0, 0);
        x.addTask(0, 1, 1, 1);
        counts(x, 0, 0);
        x.addTask(1, 1, 1, 1);
        counts(x, 1, 0);
        x.addEdge(0, 1, 1);
        counts(x, 1, 0);
        x.addTask(1, 1, 1, 1);
        x.addTask(1, 1, 1, 1);
        x.addTask(1, 1, 1, 1);
        counts(x, 3, 0);
        x.addEdge(0, 1, 1);
        counts(x, 3, 1);
        x.addEdge(0, 1, 1);
        x.addEdge(1, 0, 1);
        x.addEdge(1, 2, 101);
        counts(x, 3, 1);
        x.addEdge(1, 2, 100);
        counts(x, 3, 2);
        x.plan();
        x.run(50);
        x.setDelay(0, 5);
        counts(x, 3, 2);
        HeftPlanner full = Sample.fullOfEdges();
        counts(full, 16, 32);
        full.addEdge(0, 15, 1);
        full.addTask(1, 1, 1, 1);
        counts(full, 16, 32);
        full.plan();
        full.run(5);
        String before = Sample.shown(full);
        counts(full, 16, 32);
        check.same("the counts change nothing", Sample.shown(full), before);
        check.end();
    }

    private static void counts(HeftPlanner x, int tasks, int edges) {
        check.due("taskCount()", x.taskCount(), tasks);
        check.due("edgeCount()", x.edgeCount(), edges);
    }
}
