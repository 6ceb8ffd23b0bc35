/** Promise 5. */
public final class PlanTest {
    private static final Check check = new Check();

    public static void main(String[] args) {
        emptyIsRefused();
        gapsAreFilled();
        shortGapIsPassed();
        readyTimeInsideGap();
        equalFinishTakesSmallerProcessor();
        communicationDecides();
        planningResetsTheClock();
        planningAgainGivesTheSame();
        planIsReplaced();
        longestRun();
        check.end();
    }

    private static void place(HeftPlanner x, int t, int proc, int start, int finish) {
        check.due("plannedProc(" + t + ")", x.plannedProc(t), proc);
        check.due("plannedStart(" + t + ")", x.plannedStart(t), start);
        check.due("plannedFinish(" + t + ")", x.plannedFinish(t), finish);
    }

    private static void emptyIsRefused() {
        HeftPlanner x = new HeftPlanner(3, 3);
        check.due("plan()", x.plan(), HeftPlanner.ERR_EMPTY);
        check.due("makespan()", x.makespan(), HeftPlanner.ERR_NOPLAN);
        check.due("rank(0)", x.rank(0), HeftPlanner.ERR_NOPLAN);
        check.due("addTask", x.addTask(1, 1, 1, 1), 0);
        check.due("plan()", x.plan(), 1);
    }

    private static void gapsAreFilled() {
        HeftPlanner x = Sample.gaps();
        check.due("plan()", x.plan(), 41);
        place(x, 0, 0, 0, 10);
        place(x, 1, 1, 30, 40);
        place(x, 2, 1, 0, 5);
        place(x, 3, 1, 5, 30);
        place(x, 4, 1, 40, 41);
    }

    private static void shortGapIsPassed() {
        HeftPlanner x = new HeftPlanner(2, 4);
        x.addTask(10, 50, 0, 0);
        x.addTask(50, 10, 0, 0);
        x.addTask(50, 5, 0, 0);
        x.addTask(28, 26, 0, 0);
        x.addEdge(0, 1, 20);
        check.due("plan()", x.plan(), 40);
        place(x, 2, 1, 0, 5);
        place(x, 3, 0, 10, 38);
        HeftPlanner y = new HeftPlanner(2, 3);
        y.addTask(10, 50, 0, 0);
        y.addTask(60, 10, 0, 0);
        y.addTask(38, 31, 0, 0);
        y.addEdge(0, 1, 20);
        // 31 is one more than the gap 0..30: after task 1 it would end at 71, on processor 0 at 48
        check.due("plan()", y.plan(), 48);
        place(y, 2, 0, 10, 48);
    }

    // Task 2's data comes from task 0 too, so only a part of the gap on processor 1 is of use to it.
    private static void readyTimeInsideGap() {
        HeftPlanner x = new HeftPlanner(2, 3);
        x.addTask(10, 90, 0, 0);
        x.addTask(90, 10, 0, 0);
        x.addTask(40, 12, 0, 0);
        x.addEdge(0, 1, 20);
        x.addEdge(0, 2, 8);
        check.due("plan()", x.plan(), 40);
        place(x, 1, 1, 30, 40);
        place(x, 2, 1, 18, 30);
    }

    private static void equalFinishTakesSmallerProcessor() {
        HeftPlanner x = Sample.equalTasks(4, 6, 9);
        check.due("plan()", x.plan(), 18);
        for (int t = 0; t < 6; t++) {
            place(x, t, t % 4, t / 4 * 9, t / 4 * 9 + 9);
        }
        HeftPlanner y = new HeftPlanner(3, 4);
        for (int t = 0; t < 4; t++) {
            y.addTask(4, 2, 2, 0);
        }
        check.due("plan()", y.plan(), 4);
        place(y, 0, 1, 0, 2);
        place(y, 1, 2, 0, 2);
        place(y, 2, 0, 0, 4);
        place(y, 3, 1, 2, 4);
    }

    private static void communicationDecides() {
        for (int c = 0; c <= 100; c += 4) {
            HeftPlanner x = new HeftPlanner(2, 2);
            x.addTask(5, 50, 0, 0);
            x.addTask(60, 10, 0, 0);
            x.addEdge(0, 1, c);
            boolean away = 5 + c + 10 < 65;
            check.due("plan(), cost " + c, x.plan(), away ? 15 + c : 65);
            place(x, 1, away ? 1 : 0, away ? 5 + c : 5, away ? 15 + c : 65);
        }
        HeftPlanner tie = new HeftPlanner(2, 2);
        tie.addTask(5, 50, 0, 0);
        tie.addTask(60, 10, 0, 0);
        tie.addEdge(0, 1, 50);
        check.due("plan(), equal either way", tie.plan(), 65);
        place(tie, 1, 0, 5, 65);
    }

    private static void planningResetsTheClock() {
        HeftPlanner x = Sample.running();
        check.due("plan()", x.plan(), 41);
        check.due("clock()", x.clock(), 0);
        check.due("replayFinish(0)", x.replayFinish(0), HeftPlanner.NOT_YET);
        check.due("taskCount()", x.taskCount(), 5);
        check.due("edgeCount()", x.edgeCount(), 1);
        x.run(5000);
        check.due("replayFinish(2), delay kept", x.replayFinish(2), 15);
    }

    private static void planningAgainGivesTheSame() {
        HeftPlanner x = Sample.running();
        String before = Sample.shown(x);
        for (int i = 0; i < 3; i++) {
            x.plan();
            x.run(5000);
            check.same("planned again", Sample.shown(x), before);
        }
    }

    private static void planIsReplaced() {
        HeftPlanner x = new HeftPlanner(1, 3);
        x.addTask(10, 0, 0, 0);
        check.due("plan()", x.plan(), 10);
        x.addTask(20, 0, 0, 0);
        check.due("plan()", x.plan(), 30);
        place(x, 1, 0, 0, 20);
        place(x, 0, 0, 20, 30);
        x.addEdge(0, 1, 100);
        check.due("plan()", x.plan(), 30);
        place(x, 0, 0, 0, 10);
        place(x, 1, 0, 10, 30);
    }

    private static void longestRun() {
        HeftPlanner x = Sample.equalTasks(1, 16, 100);
        check.due("plan()", x.plan(), 1600);
        HeftPlanner full = Sample.fullOfEdges();
        check.due("plan() of a chain", full.plan(), 48);
    }
}
