/** Promise 10. */
public final class MakespanTest {
    private static final Check check = new Check();

    public static void main(String[] args) {
        withoutPlan();
        queryChangesNothing();
        leastAndGreatest();
        equalsThePlansAnswer();
        lastPlacedIsNotAlwaysTheLatest();
        newPlanMayBeShorter();
        check.end();
    }

    // "If not planned it answers `ERR_NOPLAN`. Nothing changes."
    private static void withoutPlan() {
        for (State state : State.values()) {
            if (!state.planned) {
                Refusal.due(check, "makespan()", state, HeftPlanner::makespan, HeftPlanner.ERR_NOPLAN);
            }
        }
        HeftPlanner x = new HeftPlanner(2, 6);
        x.plan();
        check.due("makespan() after a refused plan", x.makespan(), HeftPlanner.ERR_NOPLAN);
        x = Sample.running();
        check.due("makespan()", x.makespan(), 41);
        x.addEdge(3, 4, 0);
        check.due("makespan() after addEdge", x.makespan(), HeftPlanner.ERR_NOPLAN);
        x.plan();
        x.addTask(1, 1, 0, 0);
        check.due("makespan() after addTask", x.makespan(), HeftPlanner.ERR_NOPLAN);
    }

    private static void queryChangesNothing() {
        for (State state : State.values()) {
            int due = state.start.get().makespan();
            String call = "makespan(), " + state;
            Refusal.unchanged(check, call, state.start, x -> check.due(call, x.makespan(), due));
        }
    }

    private static void leastAndGreatest() {
        HeftPlanner least = Sample.equalTasks(4, 1, 1);
        least.plan();
        check.due("makespan(), the least", least.makespan(), 1);
        HeftPlanner greatest = Sample.chain(4, 16, 100, 100);
        greatest.plan();
        check.due("makespan(), the greatest", greatest.makespan(), 1600);
    }

    // "the greatest F(t) over all tasks; it equals the value the last successful plan() answered": through delays,
    // runs and refused calls
    private static void equalsThePlansAnswer() {
        HeftPlanner x = new HeftPlanner(2, 16);
        for (int t = 0; t < 16; t++) {
            x.addTask(3 + t, 40 - 2 * t, 0, 0);
            int answer = x.plan();
            x.setDelay(t, 50);
            x.run(100);
            x.run(10);
            x.addTask(0, 0, 0, 0);
            check.due("makespan()", x.makespan(), answer);
            int greatest = 0;
            for (int u = 0; u <= t; u++) {
                greatest = Math.max(greatest, x.plannedFinish(u));
            }
            check.due("makespan(), greatest finish", x.makespan(), greatest);
        }
    }

    private static void lastPlacedIsNotAlwaysTheLatest() {
        HeftPlanner x = new HeftPlanner(2, 3);
        x.addTask(50, 50, 0, 0);
        x.addTask(10, 10, 0, 0);
        x.addTask(1, 1, 0, 0);
        check.due("plan()", x.plan(), 50);
        check.due("makespan()", x.makespan(), 50);
        x = new HeftPlanner(1, 2);
        x.addTask(100, 0, 0, 0);
        x.addTask(100, 0, 0, 0);
        check.due("plan()", x.plan(), 200);
        check.due("makespan()", x.makespan(), 200);
    }

    // The edge lifts task 1 above task 0, so that it takes processor 0 first.
    private static void newPlanMayBeShorter() {
        HeftPlanner x = new HeftPlanner(2, 3);
        x.addTask(50, 51, 0, 0);
        x.addTask(10, 90, 0, 0);
        x.addTask(1, 1, 0, 0);
        check.due("plan()", x.plan(), 60);
        check.due("makespan()", x.makespan(), 60);
        x.addEdge(1, 2, 0);
        check.due("plan() with the edge", x.plan(), 51);
        check.due("makespan() with the edge", x.makespan(), 51);
    }
}
