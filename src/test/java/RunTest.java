/** Promise 11. */
public final class RunTest {
    private static final Check check = new Check();

    public static void main(String[] args) {
        withoutPlan();
        badTimes();
        refusedCallChangesNothing();
        countsFinishedTasks();
        countsWithDelays();
        everythingAfterTheMakespan();
        changesTheClockAlone();
        check.end();
    }

    private static void withoutPlan() {
        HeftPlanner x = Sample.gaps();
        for (int time : new int[] {0, 1, -1, 100000, 100001, Integer.MIN_VALUE, Integer.MAX_VALUE}) {
            check.due("run(" + time + ") without a plan", x.run(time), HeftPlanner.ERR_NOPLAN);
            check.due("clock()", x.clock(), 0);
        }
    }

    private static void badTimes() {
        HeftPlanner x = Sample.gaps();
        x.plan();
        for (int time : new int[] {-1, Integer.MIN_VALUE, 100001, Integer.MAX_VALUE}) {
            check.due("run(" + time + ")", x.run(time), HeftPlanner.ERR_ARG);
        }
        check.due("run(20)", x.run(20), 2);
        check.due("run(19)", x.run(19), HeftPlanner.ERR_ARG);
        check.due("run(0)", x.run(0), HeftPlanner.ERR_ARG);
        check.due("run(20) again", x.run(20), 2);
        check.due("run(100000)", x.run(100000), 5);
        check.due("run(100000) again", x.run(100000), 5);
        check.due("run(100001)", x.run(100001), HeftPlanner.ERR_ARG);
        check.due("run(99999)", x.run(99999), HeftPlanner.ERR_ARG);
        check.due("clock()", x.clock(), 100000);
    }

    private static void refusedCallChangesNothing() {
        HeftPlanner x = Sample.running();
        String before = Sample.shown(x);
        x.run(4999);
        x.run(-1);
        x.run(100001);
        check.same("after refused runs", Sample.shown(x), before);
        x.run(5000);
        check.same("after a run to the same time", Sample.shown(x), before);
    }

    private static void countsFinishedTasks() {
        HeftPlanner x = Sample.gaps();
        x.plan();
        int[] finish = {5, 10, 30, 40, 41};
        for (int time = 0; time <= 60; time++) {
            int due = 0;
            for (int f : finish) {
                due += f <= time ? 1 : 0;
            }
            check.due("run(" + time + ")", x.run(time), due);
            check.due("clock()", x.clock(), time);
        }
    }

    private static void countsWithDelays() {
        HeftPlanner x = Sample.running();
        x.setDelay(4, 99);
        // finishes 15 for task 2, 10 for 0, 40 for 3, 50 for 1, 150 for 4
        int[] time = {9, 10, 14, 15, 39, 40, 49, 50, 149, 150};
        int[] due = {0, 1, 1, 2, 2, 3, 3, 4, 4, 5};
        for (int i = 0; i < time.length; i++) {
            check.due("run(" + time[i] + ")", x.run(time[i]), due[i]);
        }
    }

    private static void everythingAfterTheMakespan() {
        HeftPlanner x = Sample.fullOfEdges();
        x.plan();
        check.due("run, just before the makespan", x.run(x.makespan() - 1), 15);
        check.due("run, at the makespan", x.run(x.makespan()), 16);
        check.due("run, past the makespan", x.run(x.makespan() + 1), 16);
    }

    private static void changesTheClockAlone() {
        HeftPlanner x = Sample.running();
        String before = Sample.shown(x);
        x.run(70000);
        check.same("after run(70000)", Sample.shown(x), before.replace("clock=5000", "clock=70000"));
    }
}
