/** Promise 4. */
public final class SetDelayTest {
    private static final Check check = new Check();

    public static void main(String[] args) {
        leastAndGreatestAreTaken();
        tasksOutsideAreRefused();
        delaysOutsideAreRefused();
        acceptedCallResetsTheReplay();
        sameDelayResetsTheReplay();
        worksWithoutPlan();
        delaysReachTheReplay();
        delaysAreEachTasksOwn();
        delaysOutliveThePlan();
        delaysDoNotReachThePlan();
        check.end();
    }

    // "Otherwise delay(t) = d [...]. The answer is 0."
    private static void leastAndGreatestAreTaken() {
        for (int count : new int[] {1, 5, 16}) {
            for (int t : Bounds.taken(0, count - 1)) {
                for (int d : Bounds.taken(0, 100)) {
                    HeftPlanner x = Sample.equalTasks(2, count, 7);
                    String call = "setDelay(" + t + ", " + d + ") of " + count;
                    check.due(call, x.setDelay(t, d), 0);
                    Sample.ran(x, 100000);
                    check.due("length after " + call, x.replayFinish(t) - x.replayStart(t), 7 + d);
                    check.due(call + " with a plan", x.setDelay(t, 100 - d), 0);
                    x.run(100000);
                    check.due("length after " + call, x.replayFinish(t) - x.replayStart(t), 107 - d);
                }
            }
        }
    }

    private static void refused(State state, int t, int d) {
        Refusal.due(check, "setDelay(" + t + ", " + d + ")", state, x -> x.setDelay(t, d), HeftPlanner.ERR_ARG);
    }

    // "t outside 0..n-1: answers `ERR_ARG`." "A refused call changes nothing."
    private static void tasksOutsideAreRefused() {
        for (State state : State.values()) {
            for (int bad : Bounds.outside(0, state.tasks - 1)) {
                refused(state, bad, 0);
                refused(state, bad, 100);
                refused(state, bad, 101);
                refused(state, bad, -1);
            }
        }
    }

    // "d outside 0..100: answers `ERR_ARG`."
    private static void delaysOutsideAreRefused() {
        for (State state : State.values()) {
            for (int bad : Bounds.outside(0, 100)) {
                refused(state, 0, bad);
                refused(state, 2, bad);
                refused(state, state.tasks - 1, bad);
            }
        }
    }

    // "the replay is reset: clock becomes 0, the plan (if any) is kept"
    private static void acceptedCallResetsTheReplay() {
        for (int time : new int[] {0, 1, 12, 100000}) {
            HeftPlanner x = Sample.ran(Sample.gaps(), time);
            check.due("clock() before", x.clock(), time);
            check.due("setDelay(3, 1)", x.setDelay(3, 1), 0);
            replayIsReset(x);
        }
    }

    // "This happens also when d equals the current delay"
    private static void sameDelayResetsTheReplay() {
        for (int d : Bounds.taken(0, 100)) {
            HeftPlanner x = Sample.gaps();
            x.setDelay(4, d);
            Sample.ran(x, 100000);
            check.due("setDelay(4, " + d + "), as it is", x.setDelay(4, d), 0);
            replayIsReset(x);
            x.run(100000);
            check.due("replayFinish(4)", x.replayFinish(4), 41 + d);
        }
    }

    private static void replayIsReset(HeftPlanner x) {
        check.due("clock()", x.clock(), 0);
        check.due("makespan(), plan kept", x.makespan(), 41);
        check.due("plannedStart(1), plan kept", x.plannedStart(1), 30);
        check.due("replayStart(0)", x.replayStart(0), 0);
        check.due("replayFinish(0)", x.replayFinish(0), HeftPlanner.NOT_YET);
        check.due("run(0)", x.run(0), 0);
    }

    // "and also when no plan exists (the clock is then already 0)"
    private static void worksWithoutPlan() {
        HeftPlanner x = Sample.gaps();
        check.due("setDelay(1, 30)", x.setDelay(1, 30), 0);
        check.due("setDelay(1, 30) again", x.setDelay(1, 30), 0);
        check.due("clock()", x.clock(), 0);
        check.due("makespan()", x.makespan(), HeftPlanner.ERR_NOPLAN);
        Sample.ran(x, 5000);
        check.due("replayFinish(1)", x.replayFinish(1), 70);
        x.addEdge(2, 3, 0);
        check.due("setDelay(1, 31)", x.setDelay(1, 31), 0);
        check.due("clock()", x.clock(), 0);
        check.due("makespan()", x.makespan(), HeftPlanner.ERR_NOPLAN);
        check.due("replayStart(0)", x.replayStart(0), HeftPlanner.ERR_NOPLAN);
        Sample.ran(x, 5000);
        check.due("replayFinish(1)", x.replayFinish(1), 71);
    }

    private static void delaysReachTheReplay() {
        HeftPlanner x = Sample.gaps();
        x.plan();
        x.setDelay(0, 100);
        x.run(5000);
        check.due("replayFinish(0)", x.replayFinish(0), 110);
        check.due("replayStart(1)", x.replayStart(1), 130);
        x.setDelay(0, 1);
        x.run(5000);
        check.due("replayFinish(0), set anew and not added", x.replayFinish(0), 11);
        x.setDelay(0, 0);
        x.run(5000);
        check.due("replayFinish(0), set back", x.replayFinish(0), 10);
        check.due("replayStart(1), set back", x.replayStart(1), 30);
    }

    private static void delaysAreEachTasksOwn() {
        HeftPlanner x = Sample.equalTasks(4, 16, 50);
        for (int t = 0; t < 16; t++) {
            x.setDelay(t, t * 6);
        }
        Sample.ran(x, 100000);
        for (int t = 0; t < 16; t++) {
            check.due("length of " + t, x.replayFinish(t) - x.replayStart(t), 50 + t * 6);
        }
    }

    private static void delaysOutliveThePlan() {
        HeftPlanner x = Sample.running();
        x.addTask(1, 1, 0, 0);
        x.addEdge(0, 5, 0);
        x.plan();
        Sample.ran(x, 5000);
        check.due("length of 2", x.replayFinish(2) - x.replayStart(2), 15);
        check.due("length of 4", x.replayFinish(4) - x.replayStart(4), 101);
    }

    // "Delays never affect plan(): ranks, order, processors, planned starts and finishes and the makespan do not depend
    // on them."
    private static void delaysDoNotReachThePlan() {
        HeftPlanner plain = Sample.gaps();
        HeftPlanner before = Sample.gaps();
        HeftPlanner after = Sample.gaps();
        after.plan();
        for (int t = 0; t < 5; t++) {
            before.setDelay(t, 100 - t);
            after.setDelay(t, 100 - t);
        }
        int answer = plain.plan();
        check.due("plan() after the delays", before.plan(), answer);
        for (HeftPlanner late : new HeftPlanner[] {before, after}) {
            check.due("makespan()", late.makespan(), answer);
            for (int t = 0; t < 5; t++) {
                for (int which = 0; which <= Query.PLANNED_FINISH; which++) {
                    int due = Query.ask(plain, which, t);
                    check.due(Query.NAMES[which] + "(" + t + ")", Query.ask(late, which, t), due);
                }
            }
        }
    }
}
