/** Promise 12. */
public final class ClockTest {
    private static final Check check = new Check();

    public static void main(String[] args) {
        zeroWithoutPlan();
        queryChangesNothing();
        leastAndGreatest();
        lifeOfTheClock();
        check.end();
    }

    // "It is always 0 while not planned."
    private static void zeroWithoutPlan() {
        for (State state : State.values()) {
            if (!state.planned) {
                HeftPlanner x = state.start.get();
                check.due("clock(), " + state, x.clock(), 0);
                x.run(0);
                x.run(9);
                x.run(100000);
                check.due("clock() after refused runs, " + state, x.clock(), 0);
                x.setDelay(0, 5);
                check.due("clock() after setDelay, " + state, x.clock(), 0);
            }
        }
    }

    // "Never refused; nothing changes."
    private static void queryChangesNothing() {
        for (State state : State.values()) {
            int due = state.start.get().clock();
            String call = "clock(), " + state;
            Refusal.unchanged(check, call, state.start, x -> check.due(call, x.clock(), due));
        }
    }

    private static void leastAndGreatest() {
        check.due("clock(), just planned", State.PLANNED.start.get().clock(), 0);
        check.due("clock(), in mid-run", State.MID_RUN.start.get().clock(), 12);
        check.due("clock(), the greatest", State.LATEST_CLOCK.start.get().clock(), 100000);
    }

    // "a clock that run() can only move forward (successful addTask, addEdge, setDelay and plan() set it back to 0)"
    private static void lifeOfTheClock() {
        HeftPlanner x = new HeftPlanner(2, 3);
        x.addTask(5, 5, 0, 0);
        x.addTask(5, 5, 0, 0);
        x.plan();
        moves(x, 3);
        x.run(2);
        check.due("clock() after a refused run", x.clock(), 3);
        moves(x, 100000);
        x.plan();
        check.due("clock() after plan", x.clock(), 0);
        moves(x, 8);
        x.setDelay(0, 0);
        check.due("clock() after setDelay", x.clock(), 0);
        moves(x, 8);
        x.setDelay(0, 101);
        x.addEdge(0, 0, 0);
        x.addTask(0, 0, 0, 0);
        check.due("clock() after refused calls", x.clock(), 8);
        x.addEdge(0, 1, 1);
        check.due("clock() after addEdge", x.clock(), 0);
        x.plan();
        moves(x, 8);
        x.addTask(1, 1, 1, 1);
        check.due("clock() after addTask", x.clock(), 0);
    }

    private static void moves(HeftPlanner x, int time) {
        x.run(time);
        check.due("clock() after run(" + time + ")", x.clock(), time);
    }
}
