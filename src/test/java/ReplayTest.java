/** 'Definition of the replay': when a task starts and ends in it. What is visible of it is promise 13's. */
public final class ReplayTest {
    private static final Check check = new Check();

    public static void main(String[] args) {
        firstTaskStartsAtZero();
        firstTaskWaitsForItsData();
        laterOfPreviousTaskAndData();
        sequenceGoesByPlannedStart();
        delaysFillTheSlackFirst();
        sameProcessorNeedsNoSending();
        leastAndGreatestDelay();
        plannedOrderStaysDespiteDelays();
        delaysGoOnAcrossProcessors();
        longestReplay();
        check.end();
    }

    private static void times(HeftPlanner x, int t, int start, int finish) {
        check.due("replayStart(" + t + ")", x.replayStart(t), start);
        check.due("replayFinish(" + t + ")", x.replayFinish(t), finish);
    }

    // "time 0 if it is first"
    private static void firstTaskStartsAtZero() {
        for (int processors = 1; processors <= 4; processors++) {
            HeftPlanner x = Sample.equalTasks(processors, 8, 10);
            for (int t = 0; t < 8; t++) {
                x.setDelay(t, 7);
            }
            Sample.ran(x, 100000);
            for (int t = 0; t < 8; t++) {
                int before = t / processors;
                times(x, t, before * 17, before * 17 + 17);
            }
        }
    }

    // Task 1 is the first of processor 1, and its data is there at 15.
    private static void firstTaskWaitsForItsData() {
        HeftPlanner x = new HeftPlanner(2, 2);
        x.addTask(5, 50, 0, 0);
        x.addTask(60, 10, 0, 0);
        x.addEdge(0, 1, 10);
        for (int d : Bounds.taken(0, 100)) {
            x.setDelay(0, d);
            Sample.ran(x, 5000);
            times(x, 0, 0, 5 + d);
            times(x, 1, 15 + d, 25 + d);
        }
    }

    // "A task starts at the earliest time when the previous task of its processor sequence has finished [...] and all
    // its data has arrived": in the gaps, task 3 ends at 30, and task 0's result for task 1 arrives at 30 too
    private static void laterOfPreviousTaskAndData() {
        HeftPlanner x = Sample.gaps();
        x.plan();
        for (int data : new int[] {0, 1, 2, 99, 100}) {
            for (int previous : new int[] {0, 1, 2, 99, 100}) {
                x.setDelay(0, data);
                x.setDelay(3, previous);
                x.run(5000);
                int start = 30 + Math.max(data, previous);
                times(x, 1, start, start + 10);
                times(x, 4, start + 10, start + 11);
            }
        }
    }

    // "the sequence of the tasks planned on p ordered by planned start S ascending": task 1 was placed first and has
    // the smaller id, but starts after tasks 2 and 3
    private static void sequenceGoesByPlannedStart() {
        HeftPlanner x = Sample.gaps();
        x.plan();
        x.setDelay(2, 10);
        x.run(5000);
        times(x, 0, 0, 10);
        times(x, 2, 0, 15);
        times(x, 3, 15, 40);
        times(x, 1, 40, 50);
        times(x, 4, 50, 51);
        x.setDelay(2, 0);
        x.setDelay(1, 100);
        x.run(5000);
        times(x, 2, 0, 5);
        times(x, 3, 5, 30);
        times(x, 1, 30, 140);
        times(x, 4, 140, 141);
    }

    // Task 2 ends at 10, and task 1 waits for its data until 14.
    private static void delaysFillTheSlackFirst() {
        HeftPlanner x = new HeftPlanner(2, 3);
        x.addTask(10, 100, 0, 0);
        x.addTask(100, 10, 0, 0);
        x.addTask(60, 10, 0, 0);
        x.addEdge(0, 1, 4);
        x.plan();
        int[] delay = {0, 3, 4, 5, 100};
        int[] start = {14, 14, 14, 15, 110};
        for (int i = 0; i < delay.length; i++) {
            x.setDelay(2, delay[i]);
            x.run(5000);
            times(x, 2, 0, 10 + delay[i]);
            times(x, 1, start[i], start[i] + 10);
        }
    }

    // "its data arrives for v at f if proc(u)==proc(v), else at f+c"
    private static void sameProcessorNeedsNoSending() {
        HeftPlanner near = new HeftPlanner(1, 2);
        near.addTask(4, 0, 0, 0);
        near.addTask(4, 0, 0, 0);
        near.addEdge(1, 0, 100);
        near.setDelay(1, 3);
        Sample.ran(near, 50);
        times(near, 1, 0, 7);
        times(near, 0, 7, 11);
        HeftPlanner free = new HeftPlanner(2, 2);
        free.addTask(5, 50, 0, 0);
        free.addTask(60, 10, 0, 0);
        free.addEdge(0, 1, 0);
        free.setDelay(0, 100);
        Sample.ran(free, 500);
        times(free, 1, 105, 115);
    }

    // "it then runs for w(t,proc(t)) + delay(t)"
    private static void leastAndGreatestDelay() {
        for (int cost : Bounds.taken(1, 100)) {
            for (int d : Bounds.taken(0, 100)) {
                HeftPlanner x = Sample.equalTasks(2, 3, cost);
                x.setDelay(0, d);
                Sample.ran(x, 5000);
                times(x, 0, 0, cost + d);
                times(x, 2, cost + d, 2 * cost + d);
            }
        }
    }

    // Task 1 waits for task 0 on its processor, though nothing else holds it.
    private static void plannedOrderStaysDespiteDelays() {
        HeftPlanner x = new HeftPlanner(1, 3);
        x.addTask(9, 0, 0, 0);
        x.addTask(8, 0, 0, 0);
        x.addTask(7, 0, 0, 0);
        x.setDelay(0, 100);
        x.setDelay(1, 50);
        Sample.ran(x, 1000);
        times(x, 0, 0, 109);
        times(x, 1, 109, 167);
        times(x, 2, 167, 174);
    }

    // Each task is at home on the other processor, so that every delay and every sending adds up.
    private static void delaysGoOnAcrossProcessors() {
        HeftPlanner x = new HeftPlanner(2, 16);
        for (int t = 0; t < 16; t++) {
            x.addTask(t % 2 == 0 ? 1 : 100, t % 2 == 0 ? 100 : 1, 0, 0);
            x.setDelay(t, 100);
        }
        for (int t = 0; t < 15; t++) {
            x.addEdge(t, t + 1, 98);
        }
        check.due("plan()", x.plan(), 16 + 15 * 98);
        x.run(100000);
        for (int t = 0; t < 16; t++) {
            times(x, t, t * 199, t * 199 + 101);
        }
    }

    private static void longestReplay() {
        HeftPlanner x = Sample.chain(1, 16, 100, 100);
        for (int t = 0; t < 16; t++) {
            x.setDelay(t, 100);
        }
        Sample.ran(x, 100000);
        for (int t = 0; t < 16; t++) {
            times(x, t, 200 * t, 200 * t + 200);
        }
    }
}
