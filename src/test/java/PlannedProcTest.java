/** Promise 8. */
public final class PlannedProcTest {
    private static final Check check = new Check();

    public static void main(String[] args) {
        Sample.checkRefusals(check, "plannedProc", 2);
        eachTaskOnItsFastest();
        staysBelowProcessors();
        check.end();
    }

    private static void eachTaskOnItsFastest() {
        HeftPlanner x = new HeftPlanner(4, 4);
        x.addTask(90, 90, 90, 1);
        x.addTask(90, 90, 1, 90);
        x.addTask(90, 1, 90, 90);
        x.addTask(1, 90, 90, 90);
        x.plan();
        for (int t = 0; t < 4; t++) {
            check.due("plannedProc(" + t + ")", x.plannedProc(t), 3 - t);
        }
    }

    private static void staysBelowProcessors() {
        for (int processors = 1; processors <= 4; processors++) {
            HeftPlanner x = Sample.equalTasks(processors, 16, 2);
            x.plan();
            for (int t = 0; t < 16; t++) {
                check.due("plannedProc(" + t + ")", x.plannedProc(t), t % processors);
            }
        }
    }
}
