/** Promise 2. */
public final class AddTaskTest {
    private static final Check check = new Check();
    private static final int[] BAD = {0, -1, 101, 102, Integer.MIN_VALUE, Integer.MAX_VALUE};

    public static void main(String[] args) {
        idsGrow();
        usedCostsAreChecked();
        unusedCostsAreIgnored();
        fullComesBeforeBadCosts();
        refusedCallChangesNothing();
        admissionDiscardsThePlan();
        admissionKeepsTheRest();
        check.end();
    }

    private static void idsGrow() {
        HeftPlanner x = new HeftPlanner(4, 16);
        for (int t = 0; t < 16; t++) {
            check.due("addTask", x.addTask(1, 100, 50, t + 1), t);
            check.due("taskCount()", x.taskCount(), t + 1);
        }
        check.due("addTask, full", x.addTask(1, 1, 1, 1), HeftPlanner.ERR_FULL);
    }

    private static int addWith(HeftPlanner x, int place, int value) {
        return x.addTask(place == 0 ? value : 7, place == 1 ? value : 7, place == 2 ? value : 7, place == 3 ? value : 7);
    }

    private static void usedCostsAreChecked() {
        for (int processors = 1; processors <= 4; processors++) {
            for (int place = 0; place < processors; place++) {
                HeftPlanner x = new HeftPlanner(processors, 4);
                for (int bad : BAD) {
                    check.due("addTask, cost " + bad + " at " + place, addWith(x, place, bad), HeftPlanner.ERR_ARG);
                }
                check.due("taskCount()", x.taskCount(), 0);
                check.due("addTask, cost 1 at " + place, addWith(x, place, 1), 0);
                check.due("addTask, cost 100 at " + place, addWith(x, place, 100), 1);
                x.plan();
                check.due("rank(0)", x.rank(0), 7 * (processors - 1) + 1);
                check.due("rank(1)", x.rank(1), 7 * (processors - 1) + 100);
            }
        }
    }

    private static void unusedCostsAreIgnored() {
        for (int processors = 1; processors <= 3; processors++) {
            HeftPlanner plain = new HeftPlanner(processors, 16);
            HeftPlanner x = new HeftPlanner(processors, 16);
            int count = 0;
            for (int place = processors; place < 4; place++) {
                for (int bad : new int[] {0, -5, 101, Integer.MIN_VALUE, Integer.MAX_VALUE}) {
                    if (count < 16) {
                        check.due("addTask, unused cost " + bad + " at " + place, addWith(x, place, bad), count);
                        plain.addTask(7, 7, 7, 7);
                        count++;
                    }
                }
            }
            check.due("plan()", x.plan(), plain.plan());
            check.same("the plan with unused costs", Sample.shown(x), Sample.shown(plain));
        }
    }

    private static void fullComesBeforeBadCosts() {
        HeftPlanner x = new HeftPlanner(2, 1);
        check.due("addTask, bad and not full", x.addTask(0, 0, 0, 0), HeftPlanner.ERR_ARG);
        x.addTask(1, 1, 1, 1);
        for (int bad : BAD) {
            check.due("addTask, bad and full", x.addTask(bad, bad, bad, bad), HeftPlanner.ERR_FULL);
        }
    }

    private static void refusedCallChangesNothing() {
        HeftPlanner x = Sample.running();
        String before = Sample.shown(x);
        x.addTask(0, 5, 5, 5);
        x.addTask(5, 101, 5, 5);
        check.same("after a bad cost", Sample.shown(x), before);
        HeftPlanner full = Sample.equalTasks(2, 3, 4);
        full.addEdge(0, 1, 2);
        full.setDelay(1, 9);
        full.plan();
        full.run(6000);
        before = Sample.shown(full);
        full.addTask(5, 5, 5, 5);
        full.addTask(0, 0, 0, 0);
        check.same("after a full refusal", Sample.shown(full), before);
    }

    private static void admissionDiscardsThePlan() {
        HeftPlanner x = Sample.running();
        check.due("clock() before", x.clock(), 5000);
        check.due("addTask", x.addTask(100, 100, 0, 0), 5);
        check.due("clock()", x.clock(), 0);
        check.due("makespan()", x.makespan(), HeftPlanner.ERR_NOPLAN);
        check.due("run(0)", x.run(0), HeftPlanner.ERR_NOPLAN);
    }

    private static void admissionKeepsTheRest() {
        HeftPlanner x = Sample.running();
        x.addTask(1, 1, 0, 0);
        check.due("edgeCount()", x.edgeCount(), 1);
        x.plan();
        x.run(5000);
        check.due("plannedStart(1), behind its edge", x.plannedStart(1), 30);
        check.due("replayFinish(2), with its delay", x.replayFinish(2), 15);
        check.due("replayFinish(5), without delay", x.replayFinish(5) - x.replayStart(5), 1);
    }
}
