/** Promise 9. */
public final class PlannedTimesTest {
    private static final Check check = new Check();

    public static void main(String[] args) {
        Query.checkConditions(check, Query.PLANNED_START);
        Query.checkConditions(check, Query.PLANNED_FINISH);
        leastAndGreatestTimes();
        timesOfTheGaps();
        finishIsStartAndCost();
        clockDoesNotMatter();
        check.end();
    }

    // "S(t) >= 0"
    private static void leastAndGreatestTimes() {
        HeftPlanner x = Sample.chain(1, 16, 100, 100);
        x.plan();
        for (int t = 0; t < 16; t++) {
            check.due("plannedStart(" + t + ")", x.plannedStart(t), 100 * t);
            check.due("plannedFinish(" + t + ")", x.plannedFinish(t), 100 * t + 100);
        }
        HeftPlanner least = Sample.equalTasks(1, 1, 1);
        least.plan();
        check.due("plannedStart(0) of the least", least.plannedStart(0), 0);
        check.due("plannedFinish(0) of the least", least.plannedFinish(0), 1);
    }

    private static void timesOfTheGaps() {
        HeftPlanner x = Sample.gaps();
        x.plan();
        int[] start = {0, 30, 0, 5, 40};
        int[] finish = {10, 40, 5, 30, 41};
        for (int t = 0; t < 5; t++) {
            check.due("plannedStart(" + t + ")", x.plannedStart(t), start[t]);
            check.due("plannedFinish(" + t + ")", x.plannedFinish(t), finish[t]);
        }
    }

    // "F(t) = S(t) + w(t,proc(t))", without the delays
    private static void finishIsStartAndCost() {
        HeftPlanner x = new HeftPlanner(3, 12);
        for (int t = 0; t < 12; t++) {
            x.addTask(t + 1, 2 * t + 1, 20 - t, 0);
            x.setDelay(t, t);
        }
        x.plan();
        for (int t = 0; t < 12; t++) {
            int[] cost = {t + 1, 2 * t + 1, 20 - t};
            check.holds("plannedStart(" + t + ") is not negative", x.plannedStart(t) >= 0);
            check.due("plannedFinish(" + t + ")", x.plannedFinish(t), x.plannedStart(t) + cost[x.plannedProc(t)]);
        }
    }

    private static void clockDoesNotMatter() {
        for (int time : new int[] {0, 4, 5, 29, 30, 100000}) {
            HeftPlanner x = Sample.ran(Sample.delayedGaps(), time);
            check.due("plannedStart(3) at " + time, x.plannedStart(3), 5);
            check.due("plannedFinish(3) at " + time, x.plannedFinish(3), 30);
            x.setDelay(3, 7);
            check.due("plannedStart(1), clock set back", x.plannedStart(1), 30);
            check.due("plannedFinish(1), clock set back", x.plannedFinish(1), 40);
        }
    }
}
