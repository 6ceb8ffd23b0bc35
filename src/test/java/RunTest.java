/** Promise 11. */
public final class RunTest {
    private static final Check check = new Check();

    public static void main(String[] args) {
        missingPlanComesFirst();
        leastAndGreatestTimesAreTaken();
        timesOutsideAreRefused();
        earlierTimesAreRefused();
        sameTimeChangesNothing();
        countsFinishedTasks();
        countsWithDelays();
        countsNothingAtZero();
        everythingAfterTheMakespan();
        notEverythingWithDelays();
        changesTheClockAlone();
        check.end();
    }

    // "Conditions in this order: 1. not planned: `ERR_NOPLAN`." "A refused call changes nothing."
    private static void missingPlanComesFirst() {
        for (State state : State.values()) {
            if (!state.planned) {
                for (int time : Bounds.taken(0, 100000)) {
                    refused(state, time, HeftPlanner.ERR_NOPLAN);
                }
                for (int time : Bounds.outside(0, 100000)) {
                    refused(state, time, HeftPlanner.ERR_NOPLAN);
                }
            }
        }
    }

    private static void refused(State state, int time, int code) {
        Refusal.due(check, "run(" + time + ")", state, x -> x.run(time), code);
    }

    // "Otherwise clock = time"
    private static void leastAndGreatestTimesAreTaken() {
        for (int time : Bounds.taken(0, 100000)) {
            HeftPlanner x = Sample.ran(Sample.gaps(), 0);
            check.due("run(" + time + ")", x.run(time), time < 5 ? 0 : 5);
            check.due("clock()", x.clock(), time);
        }
        HeftPlanner x = Sample.ran(Sample.gaps(), 99999);
        check.due("run(100000)", x.run(100000), 5);
        check.due("run(100000) again", x.run(100000), 5);
        check.due("clock()", x.clock(), 100000);
    }

    // "time < clock or time > 100000: `ERR_ARG` (so every negative time is refused)"
    private static void timesOutsideAreRefused() {
        for (State state : State.values()) {
            if (state.planned) {
                int clock = state.start.get().clock();
                for (int time : Bounds.outside(clock, 100000)) {
                    refused(state, time, HeftPlanner.ERR_ARG);
                }
                for (int time : new int[] {-1, -100000, Integer.MIN_VALUE, 100001, Integer.MAX_VALUE}) {
                    refused(state, time, HeftPlanner.ERR_ARG);
                }
            }
        }
    }

    private static void earlierTimesAreRefused() {
        refused(State.MID_RUN, 11, HeftPlanner.ERR_ARG);
        refused(State.MID_RUN, 1, HeftPlanner.ERR_ARG);
        refused(State.MID_RUN, 0, HeftPlanner.ERR_ARG);
        refused(State.LATEST_CLOCK, 99999, HeftPlanner.ERR_ARG);
        refused(State.LATEST_CLOCK, 0, HeftPlanner.ERR_ARG);
        HeftPlanner x = Sample.ran(Sample.gaps(), 20);
        check.due("run(19) at 20", x.run(19), HeftPlanner.ERR_ARG);
        check.due("run(20) at 20", x.run(20), 2);
        check.due("run(21) at 20", x.run(21), 2);
        check.due("run(20) at 21", x.run(20), HeftPlanner.ERR_ARG);
        x.setDelay(0, 0);
        check.due("run(19) after the clock is set back", x.run(19), 2);
    }

    // "time == clock is allowed and changes nothing"
    private static void sameTimeChangesNothing() {
        for (State state : State.values()) {
            if (state.planned) {
                HeftPlanner seen = state.start.get();
                int clock = seen.clock();
                int count = seen.run(clock);
                String call = "run at the clock, " + state;
                check.holds(call + " is allowed", count >= 0);
                Refusal.unchanged(check, call, state.start, x -> check.due(call, x.run(clock), count));
            }
        }
        check.due("run(12) at 12", State.MID_RUN.start.get().run(12), 2);
        check.due("run(0) at 0", State.PLANNED.start.get().run(0), 0);
        check.due("run(100000) at 100000", State.LATEST_CLOCK.start.get().run(100000), 5);
    }

    // "The answer is the number of tasks t with RF(t) <= clock"
    private static void countsFinishedTasks() {
        HeftPlanner x = Sample.gaps();
        x.plan();
        int[] finish = {5, 10, 30, 40, 41};
        for (int time = 0; time <= 60; time++) {
            int due = 0;
            for (int f : finish) {
                due += f <= time ? 1 : 0;
            }
            check.due("run(" + time + ")", x.run(time), due);
            check.due("clock()", x.clock(), time);
        }
    }

    // "using the delays current at the call"
    private static void countsWithDelays() {
        int[] time = {9, 10, 14, 15, 39, 40, 49, 50, 150, 151};
        int[] due = {0, 1, 1, 2, 2, 3, 3, 4, 4, 5};
        HeftPlanner x = Sample.ran(Sample.delayedGaps(), 0);
        for (int i = 0; i < time.length; i++) {
            check.due("run(" + time[i] + ")", x.run(time[i]), due[i]);
        }
        x.setDelay(4, 99);
        check.due("run(149), delay 99", x.run(149), 4);
        check.due("run(150), delay 99", x.run(150), 5);
        x.setDelay(4, 0);
        x.setDelay(2, 0);
        check.due("run(40), no delay", x.run(40), 4);
        check.due("run(41), no delay", x.run(41), 5);
    }

    // The shortest task ends at 1, and one on each processor may end at once.
    private static void countsNothingAtZero() {
        HeftPlanner x = Sample.equalTasks(4, 4, 1);
        x.plan();
        check.due("run(0)", x.run(0), 0);
        check.due("run(1)", x.run(1), 4);
    }

    // "If the call is not refused, every delay is 0 and time >= makespan(), the answer is taskCount()."
    private static void everythingAfterTheMakespan() {
        for (int seed = 0; seed < 100; seed++) {
            HeftPlanner x = new Graph(new FixedNumbers(seed)).planner();
            int makespan = x.plan();
            check.holds("run, just before the makespan", x.run(makespan - 1) < x.taskCount());
            check.due("run, at the makespan", x.run(makespan), x.taskCount());
            check.due("run, just past the makespan", x.run(makespan + 1), x.taskCount());
            check.due("run, at the greatest time", x.run(100000), x.taskCount());
            check.due("run, refused", x.run(100001), HeftPlanner.ERR_ARG);
        }
    }

    private static void notEverythingWithDelays() {
        HeftPlanner x = Sample.equalTasks(1, 16, 100);
        for (int t = 0; t < 16; t++) {
            x.setDelay(t, 100);
        }
        check.due("plan()", x.plan(), 1600);
        check.due("run(1600)", x.run(1600), 8);
        check.due("run(3199)", x.run(3199), 15);
        check.due("run(3200)", x.run(3200), 16);
    }

    // "The plan, tasks, edges and delays are unchanged."
    private static void changesTheClockAlone() {
        HeftPlanner x = Sample.running();
        String before = Sample.shown(x);
        x.run(70000);
        check.same("after run(70000)", Sample.shown(x), before.replace("clock=5000", "clock=70000"));
        HeftPlanner slow = State.PLANNED.start.get();
        for (int time = 1; time <= 12; time++) {
            slow.run(time);
        }
        check.same("the tour after twelve runs by one", Sample.tour(slow), Sample.tour(State.MID_RUN.start.get()));
    }
}
