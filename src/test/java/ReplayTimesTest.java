/** Promise 13. */
public final class ReplayTimesTest {
    private static final Check check = new Check();

    public static void main(String[] args) {
        Query.checkConditions(check, Query.REPLAY_START);
        Query.checkConditions(check, Query.REPLAY_FINISH);
        visibleFromTheirTimeOn();
        startAtZeroIsVisibleAtOnce();
        delayedTimesAreVisibleLater();
        badTaskComesBeforeNotYet();
        delaysOfTheMoment();
        withoutDelaysThePlanIsMet();
        check.end();
    }

    private static void times(HeftPlanner x, int t, int start, int finish) {
        check.due("replayStart(" + t + ") at " + x.clock(), x.replayStart(t), start);
        check.due("replayFinish(" + t + ") at " + x.clock(), x.replayFinish(t), finish);
    }

    private static void timesAt(HeftPlanner x, int time, int[] start, int[] finish) {
        int no = HeftPlanner.NOT_YET;
        x.run(time);
        for (int t = 0; t < start.length; t++) {
            times(x, t, start[t] <= time ? start[t] : no, finish[t] <= time ? finish[t] : no);
        }
    }

    // "`replayStart(t)` answers RS(t) if RS(t) <= clock, else `NOT_YET`. `replayFinish(t)` answers RF(t) if
    // RF(t) <= clock, else `NOT_YET`."
    private static void visibleFromTheirTimeOn() {
        HeftPlanner x = Sample.gaps();
        x.plan();
        for (int time = 0; time <= 45; time++) {
            timesAt(x, time, new int[] {0, 30, 0, 5, 40}, new int[] {10, 40, 5, 30, 41});
        }
        timesAt(x, 100000, new int[] {0, 30, 0, 5, 40}, new int[] {10, 40, 5, 30, 41});
    }

    private static void startAtZeroIsVisibleAtOnce() {
        HeftPlanner x = Sample.equalTasks(2, 3, 1);
        x.plan();
        times(x, 0, 0, HeftPlanner.NOT_YET);
        times(x, 1, 0, HeftPlanner.NOT_YET);
        times(x, 2, HeftPlanner.NOT_YET, HeftPlanner.NOT_YET);
        x.run(1);
        times(x, 0, 0, 1);
        times(x, 2, 1, HeftPlanner.NOT_YET);
    }

    private static void delayedTimesAreVisibleLater() {
        HeftPlanner x = Sample.ran(Sample.delayedGaps(), 0);
        for (int time = 0; time <= 155; time++) {
            timesAt(x, time, new int[] {0, 40, 0, 15, 50}, new int[] {10, 50, 15, 40, 151});
        }
    }

    private static void badTaskComesBeforeNotYet() {
        HeftPlanner x = Sample.ran(Sample.delayedGaps(), 0);
        times(x, 4, HeftPlanner.NOT_YET, HeftPlanner.NOT_YET);
        times(x, 5, HeftPlanner.ERR_ARG, HeftPlanner.ERR_ARG);
        times(x, -1, HeftPlanner.ERR_ARG, HeftPlanner.ERR_ARG);
        x.addEdge(3, 4, 0);
        times(x, 4, HeftPlanner.ERR_NOPLAN, HeftPlanner.ERR_NOPLAN);
        times(x, 5, HeftPlanner.ERR_NOPLAN, HeftPlanner.ERR_NOPLAN);
    }

    // "Both use the delays current at the query."
    private static void delaysOfTheMoment() {
        HeftPlanner x = Sample.running();
        times(x, 4, 50, 151);
        x.setDelay(4, 0);
        times(x, 4, HeftPlanner.NOT_YET, HeftPlanner.NOT_YET);
        x.run(50);
        times(x, 4, 50, HeftPlanner.NOT_YET);
        x.run(51);
        times(x, 4, 50, 51);
        x.setDelay(2, 0);
        x.run(41);
        times(x, 4, 40, 41);
        x.setDelay(2, 1);
        x.setDelay(2, 101);
        x.run(42);
        times(x, 4, 41, 42);
    }

    // "If every delay is 0 and the clock is at least the makespan, replayStart(t) == plannedStart(t) and
    // replayFinish(t) == plannedFinish(t) for every t, so the largest replayFinish equals makespan() exactly."
    private static void withoutDelaysThePlanIsMet() {
        for (int seed = 0; seed < 100; seed++) {
            HeftPlanner x = new Graph(new FixedNumbers(seed)).planner();
            int makespan = x.plan();
            for (int time : new int[] {makespan, makespan + 1, 100000}) {
                x.run(time);
                meetsThePlan(x);
            }
            x.setDelay(0, 100);
            x.setDelay(0, 0);
            x.run(makespan);
            meetsThePlan(x);
        }
    }

    private static void meetsThePlan(HeftPlanner x) {
        int greatest = 0;
        for (int t = 0; t < x.taskCount(); t++) {
            times(x, t, x.plannedStart(t), x.plannedFinish(t));
            greatest = Math.max(greatest, x.replayFinish(t));
        }
        check.due("the largest replayFinish", greatest, x.makespan());
    }
}
