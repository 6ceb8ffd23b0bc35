/** Promise 7. */
public final class OrderAtTest {
    private static final Check check = new Check();

    public static void main(String[] args) {
        Sample.checkRefusals(check, "orderAt", 1);
        greaterRankFirst();
        equalRankSmallerIdFirst();
        predecessorsFirst();
        everyTaskOnce();
        check.end();
    }

    private static void order(HeftPlanner x, int... due) {
        x.plan();
        for (int i = 0; i < due.length; i++) {
            check.due("orderAt(" + i + ")", x.orderAt(i), due[i]);
        }
    }

    private static void greaterRankFirst() {
        HeftPlanner x = new HeftPlanner(2, 5);
        x.addTask(3, 3, 0, 0);
        x.addTask(9, 1, 0, 0);
        x.addTask(4, 3, 0, 0);
        x.addTask(1, 1, 0, 0);
        x.addTask(1, 99, 0, 0);
        order(x, 4, 1, 2, 0, 3);
    }

    private static void equalRankSmallerIdFirst() {
        HeftPlanner x = new HeftPlanner(2, 6);
        x.addTask(2, 2, 0, 0);
        x.addTask(5, 1, 0, 0);
        x.addTask(1, 3, 0, 0);
        x.addTask(1, 5, 0, 0);
        x.addTask(3, 1, 0, 0);
        x.addTask(3, 3, 0, 0);
        order(x, 1, 3, 5, 0, 2, 4);
        HeftPlanner all = Sample.equalTasks(3, 16, 8);
        order(all, 0, 1, 2, 3, 4, 5, 6, 7, 8, 9, 10, 11, 12, 13, 14, 15);
    }

    private static void predecessorsFirst() {
        HeftPlanner x = new HeftPlanner(1, 4);
        x.addTask(100, 0, 0, 0);
        x.addTask(50, 0, 0, 0);
        x.addTask(1, 0, 0, 0);
        x.addTask(1, 0, 0, 0);
        x.addEdge(1, 0, 0);
        x.addEdge(2, 1, 0);
        x.addEdge(3, 2, 0);
        order(x, 3, 2, 1, 0);
    }

    private static void everyTaskOnce() {
        HeftPlanner x = Sample.fullOfEdges();
        x.plan();
        boolean[] seen = new boolean[16];
        for (int i = 0; i < 16; i++) {
            int t = x.orderAt(i);
            check.holds("orderAt(" + i + ") is a task not yet seen", t >= 0 && t < 16 && !seen[t]);
            if (t >= 0 && t < 16) {
                seen[t] = true;
            }
        }
    }
}
