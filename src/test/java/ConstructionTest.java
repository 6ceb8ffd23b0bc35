/** Promise 1. */
public final class ConstructionTest {
    private static final Check check = new Check();
    private static final int[] GIVEN = {Integer.MIN_VALUE, Integer.MIN_VALUE + 1, -65535, -255, -2, -1, 0, 1, 2, 3, 4,
        5, 6, 15, 16, 17, 18, 258, 65538, Integer.MAX_VALUE - 1, Integer.MAX_VALUE};
    private static final int[] PROCESSORS = {1, 1, 1, 1, 1, 1, 1, 1, 2, 3, 4, 4, 4, 4, 4, 4, 4, 4, 4, 4, 4};
    private static final int[] CAPACITY = {1, 1, 1, 1, 1, 1, 1, 1, 2, 3, 4, 5, 6, 15, 16, 16, 16, 16, 16, 16, 16};
    private static final int[] RANK_BY_PROCESSORS = {0, 1, 11, 31, 61};

    public static void main(String[] args) {
        anyPairIsClamped();
        newObjectIsEmpty();
        processorsAndCapacityStay();
        refusedLifeStaysEmpty();
        objectsAreApart();
        check.end();
    }

    // "accepts any int values. `processors` is clamped into 1..4 and becomes P; `capacity` is clamped into 1..16 and
    // becomes CAP. Below the least allowed value becomes the least, above the greatest becomes the greatest"
    private static void anyPairIsClamped() {
        for (int i = 0; i < GIVEN.length; i++) {
            for (int j = 0; j < GIVEN.length; j++) {
                String made = " of HeftPlanner(" + GIVEN[i] + ", " + GIVEN[j] + ")";
                HeftPlanner x = new HeftPlanner(GIVEN[i], GIVEN[j]);
                hasCapacity(made, x, CAPACITY[j]);
                hasProcessors(made, x, PROCESSORS[i]);
            }
        }
    }

    private static void hasCapacity(String made, HeftPlanner x, int capacity) {
        for (int t = x.taskCount(); t < capacity; t++) {
            check.due("addTask " + t + made, x.addTask(1, 10, 20, 30), t);
        }
        check.due("addTask past the last" + made, x.addTask(1, 10, 20, 30), HeftPlanner.ERR_FULL);
    }

    private static void hasProcessors(String made, HeftPlanner x, int processors) {
        x.plan();
        for (int t = 0; t < x.taskCount(); t++) {
            check.due("rank(" + t + ")" + made, x.rank(t), RANK_BY_PROCESSORS[processors]);
        }
    }

    // "The new object starts with n = 0, no edges (m = 0), no plan (planned false) and clock 0."
    private static void newObjectIsEmpty() {
        for (int i = 0; i < GIVEN.length; i++) {
            HeftPlanner x = new HeftPlanner(GIVEN[i], GIVEN[GIVEN.length - 1 - i]);
            check.due("taskCount()", x.taskCount(), 0);
            check.due("edgeCount()", x.edgeCount(), 0);
            check.due("clock()", x.clock(), 0);
            check.due("makespan()", x.makespan(), HeftPlanner.ERR_NOPLAN);
            check.due("run(0)", x.run(0), HeftPlanner.ERR_NOPLAN);
            for (int which = 0; which < Query.NAMES.length; which++) {
                check.due(Query.NAMES[which] + "(0)", Query.ask(x, which, 0), HeftPlanner.ERR_NOPLAN);
            }
            check.due("addEdge(0, 0, 0)", x.addEdge(0, 0, 0), HeftPlanner.ERR_ARG);
            check.due("setDelay(0, 0)", x.setDelay(0, 0), HeftPlanner.ERR_ARG);
            check.due("plan()", x.plan(), HeftPlanner.ERR_EMPTY);
        }
    }

    // "P and CAP never change afterwards."
    private static void processorsAndCapacityStay() {
        for (int processors = 1; processors <= 4; processors++) {
            for (int capacity : new int[] {1, 2, 7, 15, 16}) {
                String made = " in the life of HeftPlanner(" + processors + ", " + capacity + ")";
                HeftPlanner x = new HeftPlanner(processors, capacity);
                for (int t = 0; t < capacity; t++) {
                    x.addTask(1, 10, 20, 30);
                    everyOtherCall(x);
                    hasProcessors(made, x, processors);
                }
                hasCapacity(made, x, capacity);
                everyOtherCall(x);
                hasCapacity(made, x, capacity);
                hasProcessors(made, x, processors);
            }
        }
    }

    // Without an admitted edge, so that a rank is the sum of a task's costs.
    private static void everyOtherCall(HeftPlanner x) {
        x.addTask(0, 0, 0, 0);
        x.addEdge(0, 0, 1);
        x.addEdge(0, 16, 1);
        x.setDelay(0, 100);
        x.setDelay(0, 101);
        x.plan();
        x.run(100000);
        x.run(100001);
        Sample.shown(x);
    }

    private static void refusedLifeStaysEmpty() {
        HeftPlanner x = new HeftPlanner(2, 3);
        everyOtherCall(x);
        check.same("after refused calls alone", Sample.shown(x), "n=0 m=0 clock=0 makespan=-6");
        hasCapacity(" after refused calls alone", x, 3);
        hasProcessors(" after refused calls alone", x, 2);
    }

    private static void objectsAreApart() {
        HeftPlanner x = Sample.running();
        String before = Sample.shown(x);
        HeftPlanner y = new HeftPlanner(4, 16);
        y.addTask(1, 1, 1, 1);
        y.setDelay(0, 50);
        y.plan();
        y.run(7);
        check.same("the first object beside a second one", Sample.shown(x), before);
        check.due("taskCount() of the second", y.taskCount(), 1);
    }
}
