/** Promise 7. */
public final class OrderAtTest {
    private static final Check check = new Check();

    public static void main(String[] args) {
        Query.checkConditions(check, Query.ORDER_AT);
        greaterRankFirst();
        equalRankSmallerIdFirst();
        ranksThatDifferByOne();
        predecessorsFirst();
        everyTaskOnce();
        check.end();
    }

    private static void order(HeftPlanner x, int... due) {
        x.plan();
        for (int i = 0; i < due.length; i++) {
            check.due("orderAt(" + i + ")", x.orderAt(i), due[i]);
        }
    }

    // "all tasks sorted by R descending"
    private static void greaterRankFirst() {
        HeftPlanner x = new HeftPlanner(2, 5);
        x.addTask(3, 3, 0, 0);
        x.addTask(9, 1, 0, 0);
        x.addTask(4, 3, 0, 0);
        x.addTask(1, 1, 0, 0);
        x.addTask(1, 99, 0, 0);
        order(x, 4, 1, 2, 0, 3);
    }

    // "equal R: smaller id first"
    private static void equalRankSmallerIdFirst() {
        HeftPlanner x = new HeftPlanner(2, 6);
        x.addTask(2, 2, 0, 0);
        x.addTask(5, 1, 0, 0);
        x.addTask(1, 3, 0, 0);
        x.addTask(1, 5, 0, 0);
        x.addTask(3, 1, 0, 0);
        x.addTask(3, 3, 0, 0);
        order(x, 1, 3, 5, 0, 2, 4);
        order(Sample.equalTasks(3, 2, 100), 0, 1);
        order(Sample.equalTasks(3, 16, 8), 0, 1, 2, 3, 4, 5, 6, 7, 8, 9, 10, 11, 12, 13, 14, 15);
        HeftPlanner byEdge = new HeftPlanner(1, 3);
        byEdge.addTask(1, 0, 0, 0);
        byEdge.addTask(12, 0, 0, 0);
        byEdge.addTask(5, 0, 0, 0);
        byEdge.addEdge(2, 0, 6);
        order(byEdge, 1, 2, 0);
    }

    private static void ranksThatDifferByOne() {
        HeftPlanner up = new HeftPlanner(1, 16);
        HeftPlanner down = new HeftPlanner(1, 16);
        for (int t = 0; t < 16; t++) {
            up.addTask(1 + t, 0, 0, 0);
            down.addTask(100 - t, 0, 0, 0);
        }
        order(up, 15, 14, 13, 12, 11, 10, 9, 8, 7, 6, 5, 4, 3, 2, 1, 0);
        order(down, 0, 1, 2, 3, 4, 5, 6, 7, 8, 9, 10, 11, 12, 13, 14, 15);
    }

    // "Every edge (u,v,c) has R(u) > R(v), so predecessors are placed first": even over free edges, against the ids
    private static void predecessorsFirst() {
        HeftPlanner x = new HeftPlanner(1, 4);
        x.addTask(100, 0, 0, 0);
        x.addTask(50, 0, 0, 0);
        x.addTask(1, 0, 0, 0);
        x.addTask(1, 0, 0, 0);
        x.addEdge(1, 0, 0);
        x.addEdge(2, 1, 0);
        x.addEdge(3, 2, 0);
        order(x, 3, 2, 1, 0);
    }

    // "Positions 0..n-1 together list every task id exactly once."
    private static void everyTaskOnce() {
        for (int seed = 0; seed < 100; seed++) {
            HeftPlanner x = new Graph(new FixedNumbers(seed)).planner();
            x.plan();
            boolean[] seen = new boolean[x.taskCount()];
            for (int i = 0; i < seen.length; i++) {
                int t = x.orderAt(i);
                boolean isNew = t >= 0 && t < seen.length && !seen[t];
                check.holds("orderAt(" + i + ") is a task not yet seen", isNew);
                if (isNew) {
                    seen[t] = true;
                }
            }
        }
    }
}
