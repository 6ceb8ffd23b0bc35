/** Promise 4. */
public final class SetDelayTest {
    private static final Check check = new Check();

    public static void main(String[] args) {
        badArguments();
        refusedCallChangesNothing();
        acceptedCallResetsTheReplay();
        worksWithoutPlan();
        delaysReachTheReplay();
        delaysDoNotReachThePlan();
        check.end();
    }

    private static void badArguments() {
        HeftPlanner x = Sample.gaps();
        for (int bad : new int[] {-1, 5, 16, Integer.MIN_VALUE, Integer.MAX_VALUE}) {
            check.due("setDelay(" + bad + ", 1)", x.setDelay(bad, 1), HeftPlanner.ERR_ARG);
            check.due("setDelay(" + bad + ", 101)", x.setDelay(bad, 101), HeftPlanner.ERR_ARG);
        }
        for (int bad : new int[] {-1, 101, Integer.MIN_VALUE, Integer.MAX_VALUE}) {
            check.due("setDelay(0, " + bad + ")", x.setDelay(0, bad), HeftPlanner.ERR_ARG);
        }
        check.due("setDelay(4, 0)", x.setDelay(4, 0), 0);
        check.due("setDelay(0, 100)", x.setDelay(0, 100), 0);
        check.due("setDelay without tasks", new HeftPlanner(1, 1).setDelay(0, 0), HeftPlanner.ERR_ARG);
    }

    private static void refusedCallChangesNothing() {
        HeftPlanner x = Sample.running();
        String before = Sample.shown(x);
        x.setDelay(-1, 3);
        x.setDelay(5, 3);
        x.setDelay(2, -1);
        x.setDelay(2, 101);
        check.same("after refused delays", Sample.shown(x), before);
    }

    private static void acceptedCallResetsTheReplay() {
        HeftPlanner x = Sample.running();
        check.due("setDelay(2, 10), as it is", x.setDelay(2, 10), 0);
        check.due("clock()", x.clock(), 0);
        check.due("makespan(), plan kept", x.makespan(), 41);
        check.due("replayFinish(0)", x.replayFinish(0), HeftPlanner.NOT_YET);
        check.due("run(10)", x.run(10), 1);
        check.due("setDelay(3, 1)", x.setDelay(3, 1), 0);
        check.due("clock()", x.clock(), 0);
        check.due("run(0)", x.run(0), 0);
    }

    private static void worksWithoutPlan() {
        HeftPlanner x = Sample.gaps();
        check.due("setDelay(1, 30)", x.setDelay(1, 30), 0);
        check.due("clock()", x.clock(), 0);
        check.due("makespan()", x.makespan(), HeftPlanner.ERR_NOPLAN);
        x.plan();
        x.run(5000);
        check.due("replayFinish(1)", x.replayFinish(1), 70);
        x.addEdge(2, 3, 0);
        check.due("setDelay(1, 31)", x.setDelay(1, 31), 0);
        check.due("makespan()", x.makespan(), HeftPlanner.ERR_NOPLAN);
        check.due("replayStart(0)", x.replayStart(0), HeftPlanner.ERR_NOPLAN);
        x.plan();
        x.run(5000);
        check.due("replayFinish(1)", x.replayFinish(1), 71);
    }

    private static void delaysReachTheReplay() {
        HeftPlanner x = Sample.gaps();
        x.plan();
        x.setDelay(0, 100);
        x.run(5000);
        check.due("replayFinish(0)", x.replayFinish(0), 110);
        check.due("replayStart(1)", x.replayStart(1), 130);
        x.setDelay(0, 1);
        x.run(5000);
        check.due("replayFinish(0), set anew and not added", x.replayFinish(0), 11);
        x.setDelay(0, 0);
        x.run(5000);
        check.due("replayFinish(0), set back", x.replayFinish(0), 10);
        check.due("replayStart(1), set back", x.replayStart(1), 30);
    }

    private static void delaysDoNotReachThePlan() {
        HeftPlanner plain = Sample.gaps();
        HeftPlanner late = Sample.gaps();
        for (int t = 0; t < 5; t++) {
            late.setDelay(t, 100 - t);
        }
        check.due("plan()", late.plan(), plain.plan());
        check.due("makespan()", late.makespan(), plain.makespan());
        for (int t = 0; t < 5; t++) {
            for (int which = 0; which <= 4; which++) {
                check.due("query " + which + " of " + t, Sample.query(late, which, t), Sample.query(plain, which, t));
            }
        }
    }
}
