/** 'Definitions used by plan()': where a task is placed. Ranks and the placement order have tests of their own. */
public final class PlacementTest {
    private static final Check check = new Check();
    private static final int NO_EDGE = -1;

    public static void main(String[] args) {
        firstTaskStartsAtZero();
        gapsAreFilledToTheBrim();
        shortGapsArePassed();
        readyTimeCutsTheGap();
        readyTimeAtTheEndOfATask();
        equalFinishTakesSmallerProcessor();
        equalFinishWithUnequalStarts();
        latestDataCounts();
        communicationDecides();
        startMovesPastTasksInAnyOrder();
        otherProcessorsAreNotInTheWay();
        check.end();
    }

    private static void place(String what, HeftPlanner x, int t, int proc, int start, int finish) {
        check.due("plannedProc(" + t + "), " + what, x.plannedProc(t), proc);
        check.due("plannedStart(" + t + "), " + what, x.plannedStart(t), start);
        check.due("plannedFinish(" + t + "), " + what, x.plannedFinish(t), finish);
    }

    // "and 0 if t has no incoming edge"
    private static void firstTaskStartsAtZero() {
        for (int cost : new int[] {1, 100}) {
            HeftPlanner x = Sample.equalTasks(4, 5, cost);
            x.addEdge(4, 0, 100);
            check.due("plan()", x.plan(), 2 * cost);
            place("no data", x, 4, 0, 0, cost);
            place("no data", x, 1, 1, 0, cost);
            place("no data", x, 2, 2, 0, cost);
            place("no data", x, 3, 3, 0, cost);
            place("data on its processor", x, 0, 0, cost, 2 * cost);
        }
    }

    /**
     * When task 3 is placed, processor 0 is taken at 0..10, and processor 1 at 14..24 and at 40..50. On processor 0
     * it would take 60 and end at 70. With an edge from task 0, its data is on processor 1 at 10 and the edge's cost.
     */
    private static void twoGaps(int length, int comm, int proc, int start) {
        HeftPlanner x = new HeftPlanner(2, 4);
        x.addTask(10, 100, 0, 0);
        x.addTask(100, 10, 0, 0);
        x.addTask(100, 10, 0, 0);
        x.addTask(60, length, 0, 0);
        x.addEdge(0, 1, 4);
        x.addEdge(0, 2, 30);
        if (comm != NO_EDGE) {
            x.addEdge(0, 3, comm);
        }
        x.plan();
        String what = "length " + length + ", edge " + comm;
        place(what, x, 0, 0, 0, 10);
        place(what, x, 1, 1, 14, 24);
        place(what, x, 2, 1, 40, 50);
        place(what, x, 3, proc, start, start + (proc == 0 ? 60 : length));
    }

    // "the smallest integer s >= ready(t,p) such that the interval [s, s+w(t,p)) overlaps no interval [S(x),F(x))";
    // "intervals [a,b) and [c,d) overlap iff a<d and c<b", so intervals that touch do not
    private static void gapsAreFilledToTheBrim() {
        twoGaps(1, NO_EDGE, 1, 0);
        twoGaps(13, NO_EDGE, 1, 0);
        twoGaps(14, NO_EDGE, 1, 0);
        twoGaps(15, NO_EDGE, 1, 24);
        twoGaps(16, NO_EDGE, 1, 24);
        HeftPlanner x = Sample.gaps();
        check.due("plan()", x.plan(), 41);
        place("gaps", x, 0, 0, 0, 10);
        place("gaps", x, 1, 1, 30, 40);
        place("gaps", x, 2, 1, 0, 5);
        place("gaps", x, 3, 1, 5, 30);
        place("gaps", x, 4, 1, 40, 41);
    }

    // Neither gap is long enough, so it goes behind the last task, unless the other processor is as good.
    private static void shortGapsArePassed() {
        twoGaps(17, NO_EDGE, 1, 50);
        twoGaps(19, NO_EDGE, 1, 50);
        twoGaps(20, NO_EDGE, 0, 10);
        twoGaps(21, NO_EDGE, 0, 10);
    }

    private static void readyTimeCutsTheGap() {
        twoGaps(4, 0, 1, 10);
        twoGaps(5, 0, 1, 24);
        twoGaps(1, 3, 1, 13);
        twoGaps(2, 3, 1, 24);
        twoGaps(15, 15, 1, 25);
        twoGaps(16, 15, 1, 50);
        twoGaps(1, 29, 1, 39);
        twoGaps(2, 29, 1, 50);
    }

    private static void readyTimeAtTheEndOfATask() {
        twoGaps(1, 4, 1, 24);
        twoGaps(1, 13, 1, 24);
        twoGaps(16, 14, 1, 24);
        twoGaps(17, 14, 1, 50);
        twoGaps(1, 30, 1, 50);
        twoGaps(1, 39, 1, 50);
        twoGaps(1, 40, 1, 50);
        twoGaps(1, 41, 1, 51);
        twoGaps(1, 58, 1, 68);
        twoGaps(1, 59, 0, 10);
        twoGaps(1, 100, 0, 10);
    }

    // "t goes to the processor p with the least eft(t,p); equal eft: smaller p."
    private static void equalFinishTakesSmallerProcessor() {
        for (int fast = 1; fast < 16; fast++) {
            int[] c = new int[4];
            for (int p = 0; p < 4; p++) {
                c[p] = (fast & (1 << p)) != 0 ? 99 : 100;
            }
            HeftPlanner x = new HeftPlanner(4, 1);
            x.addTask(c[0], c[1], c[2], c[3]);
            check.due("plan()", x.plan(), 99);
            place("fast ones " + fast, x, 0, Integer.numberOfTrailingZeros(fast), 0, 99);
        }
        for (int processors = 1; processors <= 4; processors++) {
            HeftPlanner x = Sample.equalTasks(processors, 9, 9);
            x.plan();
            for (int t = 0; t < 9; t++) {
                int start = t / processors * 9;
                place("equal tasks", x, t, t % processors, start, start + 9);
            }
        }
    }

    // Task 0 keeps processor 1 until 5, so task 1 would end there at 10.
    private static void equalFinishWithUnequalStarts() {
        for (int cost = 8; cost <= 12; cost++) {
            HeftPlanner x = new HeftPlanner(2, 2);
            x.addTask(100, 5, 0, 0);
            x.addTask(cost, 5, 0, 0);
            x.plan();
            boolean first = cost <= 10;
            place("cost " + cost, x, 1, first ? 0 : 1, first ? 0 : 5, first ? cost : 10);
        }
        HeftPlanner y = new HeftPlanner(3, 4);
        for (int t = 0; t < 4; t++) {
            y.addTask(4, 2, 2, 0);
        }
        check.due("plan()", y.plan(), 4);
        place("three processors", y, 0, 1, 0, 2);
        place("three processors", y, 1, 2, 0, 2);
        place("three processors", y, 2, 0, 0, 4);
        place("three processors", y, 3, 1, 2, 4);
    }

    // "max over edges (u,t,c) of (F(u) + (proc(u)==p ? 0 : c))": from processor 0 at 10, from processor 1 at 24
    private static void latestDataCounts() {
        int[][] cases = {{0, 0, 0, 24}, {13, 0, 0, 24}, {14, 0, 0, 24}, {14, 1, 1, 24}, {15, 1, 0, 25}, {15, 2, 1, 25},
            {100, 75, 0, 99}, {100, 86, 0, 110}, {100, 87, 1, 110}, {100, 100, 1, 110}};
        for (int[] each : cases) {
            HeftPlanner x = new HeftPlanner(2, 3);
            x.addTask(10, 100, 0, 0);
            x.addTask(100, 24, 0, 0);
            x.addTask(5, 5, 0, 0);
            x.addEdge(0, 2, each[0]);
            x.addEdge(1, 2, each[1]);
            check.due("plan()", x.plan(), each[3] + 5);
            place("edges " + each[0] + " and " + each[1], x, 2, each[2], each[3], each[3] + 5);
        }
    }

    private static void communicationDecides() {
        for (int c = 0; c <= 100; c++) {
            HeftPlanner x = new HeftPlanner(2, 2);
            x.addTask(5, 50, 0, 0);
            x.addTask(60, 10, 0, 0);
            x.addEdge(0, 1, c);
            boolean away = c < 50;
            check.due("plan(), cost " + c, x.plan(), away ? 15 + c : 65);
            place("cost " + c, x, 1, away ? 1 : 0, away ? 5 + c : 5, away ? 15 + c : 65);
        }
    }

    // Task 1 is placed first and starts last, then come the ones before it, from the front and to the front.
    private static void startMovesPastTasksInAnyOrder() {
        HeftPlanner x = new HeftPlanner(2, 7);
        for (int[] c : new int[][] {{10, 100}, {100, 10}, {100, 9}, {100, 8}, {100, 2}, {100, 1}, {50, 1}}) {
            x.addTask(c[0], c[1], 0, 0);
        }
        x.addEdge(0, 1, 10);
        x.addEdge(0, 3, 1);
        check.due("plan()", x.plan(), 31);
        place("passing", x, 1, 1, 20, 30);
        place("passing", x, 2, 1, 0, 9);
        place("passing", x, 3, 1, 11, 19);
        place("passing", x, 4, 1, 9, 11);
        place("passing", x, 5, 1, 19, 20);
        place("no gap left", x, 6, 1, 30, 31);
    }

    // "overlaps no interval [S(x),F(x)) of a task x already placed on p"
    private static void otherProcessorsAreNotInTheWay() {
        HeftPlanner x = new HeftPlanner(4, 4);
        x.addTask(50, 100, 100, 100);
        x.addTask(100, 50, 100, 99);
        x.addTask(100, 100, 50, 98);
        x.addTask(100, 100, 97, 50);
        check.due("plan()", x.plan(), 50);
        for (int t = 0; t < 4; t++) {
            place("side by side", x, t, t, 0, 50);
        }
    }
}
