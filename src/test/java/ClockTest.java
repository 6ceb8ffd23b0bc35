/** Promise 12. */
public final class ClockTest {
    private static final Check check = new Check();

    public static void main(String[] args) {
        HeftPlanner x = new HeftPlanner(2, 3);
        check.due("clock(), new", x.clock(), 0);
        x.addTask(5, 5, 0, 0);
        x.addTask(5, 5, 0, 0);
        x.run(9);
        check.due("clock() without a plan", x.clock(), 0);
        x.plan();
        check.due("clock(), planned", x.clock(), 0);
        moves(x, 3);
        x.run(2);
        check.due("clock() after a refused run", x.clock(), 3);
        check.due("clock() asked again", x.clock(), 3);
        moves(x, 100000);
        x.plan();
        check.due("clock() after plan", x.clock(), 0);
        moves(x, 8);
        x.setDelay(0, 0);
        check.due("clock() after setDelay", x.clock(), 0);
        moves(x, 8);
        x.setDelay(0, 101);
        x.addEdge(0, 0, 0);
        x.addTask(0, 0, 0, 0);
        check.due("clock() after refused calls", x.clock(), 8);
        x.addEdge(0, 1, 1);
        check.due("clock() after addEdge", x.clock(), 0);
        x.plan();
        moves(x, 8);
        x.addTask(1, 1, 1, 1);
        check.due("clock() after addTask", x.clock(), 0);
        x.run(7);
        check.due("clock() without a plan again", x.clock(), 0);
        check.end();
    }

    private static void moves(HeftPlanner x, int time) {
        x.run(time);
        check.due("clock() after run(" + time + ")", x.clock(), time);
    }
}
