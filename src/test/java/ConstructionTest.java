/** Promise 1. */
public final class ConstructionTest {
    private static final Check check = new Check();

    public static void main(String[] args) {
        processorsAreClamped();
        capacityIsClamped();
        newObjectIsEmpty();
        processorsAndCapacityStay();
        objectsAreApart();
        check.end();
    }

    private static void processorsAreClamped() {
        int[] given = {Integer.MIN_VALUE, -1, 0, 1, 2, 3, 4, 5, 6, Integer.MAX_VALUE};
        int[] rank = {1, 1, 1, 1, 11, 31, 61, 61, 61, 61};
        for (int i = 0; i < given.length; i++) {
            HeftPlanner x = new HeftPlanner(given[i], 1);
            x.addTask(1, 10, 20, 30);
            x.plan();
            check.due("rank(0), processors " + given[i], x.rank(0), rank[i]);
        }
    }

    private static void capacityIsClamped() {
        int[] given = {Integer.MIN_VALUE, -1, 0, 1, 2, 7, 15, 16, 17, 100, Integer.MAX_VALUE};
        int[] room = {1, 1, 1, 1, 2, 7, 15, 16, 16, 16, 16};
        for (int i = 0; i < given.length; i++) {
            HeftPlanner x = new HeftPlanner(1, given[i]);
            for (int t = 0; t < room[i]; t++) {
                check.due("addTask, capacity " + given[i], x.addTask(1, 0, 0, 0), t);
            }
            check.due("addTask past capacity " + given[i], x.addTask(1, 0, 0, 0), HeftPlanner.ERR_FULL);
        }
    }

    private static void newObjectIsEmpty() {
        for (int processors = -1; processors <= 6; processors++) {
            HeftPlanner x = new HeftPlanner(processors, 9);
            check.due("taskCount()", x.taskCount(), 0);
            check.due("edgeCount()", x.edgeCount(), 0);
            check.due("clock()", x.clock(), 0);
            check.due("makespan()", x.makespan(), HeftPlanner.ERR_NOPLAN);
            check.due("run(0)", x.run(0), HeftPlanner.ERR_NOPLAN);
            check.due("addEdge(0, 0, 0)", x.addEdge(0, 0, 0), HeftPlanner.ERR_ARG);
            check.due("setDelay(0, 0)", x.setDelay(0, 0), HeftPlanner.ERR_ARG);
            check.due("plan()", x.plan(), HeftPlanner.ERR_EMPTY);
        }
    }

    private static void processorsAndCapacityStay() {
        HeftPlanner x = Sample.running();
        check.due("addTask(1, 2)", x.addTask(1, 2, 0, 0), 5);
        check.due("addTask(1, 2) past capacity", x.addTask(1, 2, 0, 0), HeftPlanner.ERR_FULL);
        x.plan();
        check.due("rank(5)", x.rank(5), 3);
    }

    private static void objectsAreApart() {
        HeftPlanner x = Sample.running();
        String before = Sample.shown(x);
        HeftPlanner y = new HeftPlanner(4, 16);
        y.addTask(1, 1, 1, 1);
        y.setDelay(0, 50);
        y.plan();
        y.run(7);
        check.same("the first object beside a second one", Sample.shown(x), before);
        check.due("taskCount() of the second", y.taskCount(), 1);
    }
}
