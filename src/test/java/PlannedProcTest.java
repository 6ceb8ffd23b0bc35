/** Promise 8. */
public final class PlannedProcTest {
    private static final Check check = new Check();

    public static void main(String[] args) {
        Query.checkConditions(check, Query.PLANNED_PROC);
        firstAndLastProcessorAreUsed();
        noOtherProcessorIsUsed();
        check.end();
    }

    private static void firstAndLastProcessorAreUsed() {
        HeftPlanner x = new HeftPlanner(4, 4);
        x.addTask(90, 90, 90, 1);
        x.addTask(90, 90, 1, 90);
        x.addTask(90, 1, 90, 90);
        x.addTask(1, 90, 90, 90);
        x.plan();
        for (int t = 0; t < 4; t++) {
            check.due("plannedProc(" + t + ")", x.plannedProc(t), 3 - t);
        }
    }

    // "a value in 0..P-1", though the processors that the object does not have would be faster
    private static void noOtherProcessorIsUsed() {
        for (int processors = 1; processors <= 4; processors++) {
            HeftPlanner x = new HeftPlanner(processors, 16);
            for (int t = 0; t < 16; t++) {
                x.addTask(90, processors > 1 ? 90 : 1, processors > 2 ? 90 : 1, processors > 3 ? 90 : 1);
            }
            x.plan();
            for (int t = 0; t < 16; t++) {
                check.due("plannedProc(" + t + ") of " + processors, x.plannedProc(t), t % processors);
            }
        }
    }
}
