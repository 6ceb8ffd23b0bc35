/** Promise 9. */
public final class PlannedTimesTest {
    private static final Check check = new Check();

    public static void main(String[] args) {
        Sample.checkRefusals(check, "plannedStart", 3);
        Sample.checkRefusals(check, "plannedFinish", 4);
        timesOfTheGaps();
        finishIsStartAndCost();
        clockDoesNotMatter();
        check.end();
    }

    private static void timesOfTheGaps() {
        HeftPlanner x = Sample.gaps();
        x.plan();
        int[] start = {0, 30, 0, 5, 40};
        int[] finish = {10, 40, 5, 30, 41};
        for (int t = 0; t < 5; t++) {
            check.due("plannedStart(" + t + ")", x.plannedStart(t), start[t]);
            check.due("plannedFinish(" + t + ")", x.plannedFinish(t), finish[t]);
        }
    }

    private static void finishIsStartAndCost() {
        HeftPlanner x = new HeftPlanner(3, 12);
        for (int t = 0; t < 12; t++) {
            x.addTask(t + 1, 2 * t + 1, 20 - t, 0);
            x.setDelay(t, t);
        }
        x.plan();
        for (int t = 0; t < 12; t++) {
            int[] cost = {t + 1, 2 * t + 1, 20 - t};
            check.holds("plannedStart(" + t + ") is not negative", x.plannedStart(t) >= 0);
            check.due("plannedFinish(" + t + ")", x.plannedFinish(t), x.plannedStart(t) + cost[x.plannedProc(t)]);
        }
    }

    private static void clockDoesNotMatter() {
        HeftPlanner x = Sample.running();
        check.due("plannedStart(3), delayed and run", x.plannedStart(3), 5);
        check.due("plannedFinish(3), delayed and run", x.plannedFinish(3), 30);
        x.setDelay(3, 7);
        check.due("plannedStart(1), clock at 0", x.plannedStart(1), 30);
        check.due("plannedFinish(1), clock at 0", x.plannedFinish(1), 40);
    }
}
