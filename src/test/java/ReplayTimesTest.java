/** Promise 13. */
public final class ReplayTimesTest {
    private static final Check check = new Check();

    public static void main(String[] args) {
        Sample.checkRefusals(check, "replayStart", 5);
        Sample.checkRefusals(check, "replayFinish", 6);
        visibleFromTheirTimeOn();
        delayedSequence();
        delayedData();
        withoutDelaysThePlanIsMet();
        delaysOfTheMoment();
        plannedOrderStaysDespiteDelays();
        check.end();
    }

    private static void times(HeftPlanner x, int t, int start, int finish) {
        check.due("replayStart(" + t + ")", x.replayStart(t), start);
        check.due("replayFinish(" + t + ")", x.replayFinish(t), finish);
    }

    private static void visibleFromTheirTimeOn() {
        HeftPlanner x = Sample.gaps();
        x.plan();
        int no = HeftPlanner.NOT_YET;
        int[] start = {0, 30, 0, 5, 40};
        int[] finish = {10, 40, 5, 30, 41};
        for (int time = 0; time <= 45; time++) {
            x.run(time);
            for (int t = 0; t < 5; t++) {
                times(x, t, start[t] <= time ? start[t] : no, finish[t] <= time ? finish[t] : no);
            }
        }
    }

    private static void delayedSequence() {
        HeftPlanner x = Sample.gaps();
        x.plan();
        x.setDelay(2, 10);
        x.run(5000);
        times(x, 0, 0, 10);
        times(x, 2, 0, 15);
        times(x, 3, 15, 40);
        times(x, 1, 40, 50);
        times(x, 4, 50, 51);
    }

    private static void delayedData() {
        HeftPlanner x = Sample.gaps();
        x.plan();
        x.setDelay(0, 7);
        x.run(5000);
        times(x, 0, 0, 17);
        times(x, 2, 0, 5);
        times(x, 3, 5, 30);
        times(x, 1, 37, 47);
        times(x, 4, 47, 48);
        HeftPlanner near = new HeftPlanner(1, 2);
        near.addTask(4, 0, 0, 0);
        near.addTask(4, 0, 0, 0);
        near.addEdge(1, 0, 90);
        near.setDelay(1, 3);
        near.plan();
        near.run(50);
        times(near, 1, 0, 7);
        times(near, 0, 7, 11);
    }

    private static void withoutDelaysThePlanIsMet() {
        HeftPlanner x = Sample.fullOfEdges();
        x.plan();
        x.run(x.makespan());
        int greatest = 0;
        for (int t = 0; t < 16; t++) {
            times(x, t, x.plannedStart(t), x.plannedFinish(t));
            greatest = Math.max(greatest, x.replayFinish(t));
        }
        check.due("greatest replayFinish", greatest, x.makespan());
    }

    private static void delaysOfTheMoment() {
        HeftPlanner x = Sample.running();
        times(x, 4, 50, 151);
        x.setDelay(4, 0);
        times(x, 4, HeftPlanner.NOT_YET, HeftPlanner.NOT_YET);
        x.run(50);
        times(x, 4, 50, HeftPlanner.NOT_YET);
        x.run(51);
        times(x, 4, 50, 51);
        x.setDelay(2, 0);
        x.run(41);
        times(x, 4, 40, 41);
    }

    // Task 1 waits for task 0 on its processor, though its own data is there long before.
    private static void plannedOrderStaysDespiteDelays() {
        HeftPlanner x = new HeftPlanner(1, 3);
        x.addTask(9, 0, 0, 0);
        x.addTask(8, 0, 0, 0);
        x.addTask(7, 0, 0, 0);
        x.setDelay(0, 100);
        x.setDelay(1, 50);
        x.plan();
        x.run(108);
        check.due("replayFinish(0) at 108", x.replayFinish(0), HeftPlanner.NOT_YET);
        check.due("replayStart(1) at 108", x.replayStart(1), HeftPlanner.NOT_YET);
        x.run(1000);
        times(x, 0, 0, 109);
        times(x, 1, 109, 167);
        times(x, 2, 167, 174);
    }
}
