/** Promise 2. */
public final class AddTaskTest {
    private static final Check check = new Check();
    private static final int[] BAD = Bounds.outside(1, 100);

    public static void main(String[] args) {
        firstAndLastIdAreTaken();
        leastAndGreatestCostAreTaken();
        costsOutsideAreRefused();
        anyOneBadCostIsEnough();
        unusedCostsMayHoldAnyValue();
        unusedCostsHaveNoEffect();
        fullIsRefused();
        fullComesBeforeBadCosts();
        newTaskHasNoDelay();
        admissionDiscardsThePlan();
        admissionWithoutPlan();
        admissionKeepsTheRest();
        check.end();
    }

    private static int addWith(HeftPlanner x, int place, int value) {
        int[] c = {7, 7, 7, 7};
        c[place] = value;
        return x.addTask(c[0], c[1], c[2], c[3]);
    }

    // "Otherwise the task gets id n, [...] n grows by 1 [...]. The answer is the new id."
    private static void firstAndLastIdAreTaken() {
        for (int capacity : new int[] {1, 2, 15, 16}) {
            HeftPlanner x = new HeftPlanner(4, capacity);
            for (int t = 0; t < capacity; t++) {
                check.due("addTask of " + capacity, x.addTask(1, 100, 50, t + 1), t);
                check.due("taskCount()", x.taskCount(), t + 1);
            }
            check.due("addTask past " + capacity, x.addTask(1, 1, 1, 1), HeftPlanner.ERR_FULL);
            check.due("taskCount()", x.taskCount(), capacity);
        }
    }

    // "any used cost outside 1..100", "its costs are the used values"
    private static void leastAndGreatestCostAreTaken() {
        for (int processors = 1; processors <= 4; processors++) {
            for (int place = 0; place < processors; place++) {
                HeftPlanner x = new HeftPlanner(processors, 4);
                int[] good = {1, 2, 99, 100};
                for (int i = 0; i < 4; i++) {
                    check.due("addTask, cost " + good[i] + " at " + place, addWith(x, place, good[i]), i);
                }
                x.plan();
                for (int i = 0; i < 4; i++) {
                    check.due("rank(" + i + ")", x.rank(i), 7 * (processors - 1) + good[i]);
                }
            }
        }
        HeftPlanner x = new HeftPlanner(4, 2);
        check.due("addTask, all least", x.addTask(1, 1, 1, 1), 0);
        check.due("addTask, all greatest", x.addTask(100, 100, 100, 100), 1);
    }

    // "any used cost outside 1..100: answers `ERR_ARG`." "A refused call changes nothing"
    private static void costsOutsideAreRefused() {
        for (State state : new State[] {State.EMPTY, State.UNPLANNED, State.DISCARDED, State.PLANNED, State.MID_RUN,
            State.LATEST_CLOCK, State.FULL_OF_EDGES}) {
            for (int bad : BAD) {
                for (int place = 0; place < 2; place++) {
                    int at = place;
                    String call = "addTask, cost " + bad + " at " + at;
                    Refusal.due(check, call, state, x -> addWith(x, at, bad), HeftPlanner.ERR_ARG);
                }
            }
        }
        for (int bad : BAD) {
            for (int place = 0; place < 4; place++) {
                int at = place;
                String call = "addTask, four processors, cost " + bad + " at " + at;
                Refusal.due(check, call, () -> new HeftPlanner(4, 2), x -> addWith(x, at, bad), HeftPlanner.ERR_ARG);
            }
        }
    }

    private static void anyOneBadCostIsEnough() {
        for (int which = 1; which < 16; which++) {
            HeftPlanner x = new HeftPlanner(4, 2);
            int[] c = new int[4];
            for (int p = 0; p < 4; p++) {
                boolean bad = (which & (1 << p)) != 0;
                c[p] = bad ? (p % 2 == 0 ? 0 : 101) : 100;
            }
            check.due("addTask, bad ones " + which, x.addTask(c[0], c[1], c[2], c[3]), HeftPlanner.ERR_ARG);
            check.due("taskCount()", x.taskCount(), 0);
        }
    }

    // "Only the first P of these are used; the others are ignored entirely (they may hold any int value, including
    // values outside 1..100, without effect)."
    private static void unusedCostsMayHoldAnyValue() {
        for (int processors = 1; processors <= 3; processors++) {
            for (int value : BAD) {
                for (int place = processors; place < 4; place++) {
                    HeftPlanner x = new HeftPlanner(processors, 1);
                    check.due("addTask, unused cost " + value + " at " + place, addWith(x, place, value), 0);
                }
                HeftPlanner x = new HeftPlanner(processors, 1);
                check.due("addTask, all unused " + value,
                    x.addTask(7, processors > 1 ? 7 : value, processors > 2 ? 7 : value, value), 0);
            }
        }
    }

    private static void unusedCostsHaveNoEffect() {
        for (int processors = 1; processors <= 3; processors++) {
            HeftPlanner plain = unusedLife(processors, 50);
            for (int value : new int[] {Integer.MIN_VALUE, -1, 0, 1, 100, 101, Integer.MAX_VALUE}) {
                HeftPlanner x = unusedLife(processors, value);
                check.same("shown with unused costs " + value, Sample.shown(x), Sample.shown(plain));
            }
        }
    }

    private static HeftPlanner unusedLife(int processors, int unused) {
        HeftPlanner x = new HeftPlanner(processors, 8);
        for (int t = 0; t < 8; t++) {
            x.addTask(90, processors > 1 ? 80 + t : unused, processors > 2 ? 70 + 2 * t : unused, unused);
        }
        x.addEdge(0, 7, 3);
        return Sample.ran(x, 100000);
    }

    // "n == CAP: answers `ERR_FULL`" "A refused call changes nothing: n, the edges, delays, the plan and the clock all
    // stay as they were."
    private static void fullIsRefused() {
        for (State state : new State[] {State.FULL_OF_TASKS, State.FULL_OF_BOTH, State.FULL_UNPLANNED}) {
            Refusal.due(check, "addTask, full", state, x -> x.addTask(5, 5, 5, 5), HeftPlanner.ERR_FULL);
        }
        Refusal.due(check, "addTask past the one", () -> Sample.ran(Sample.equalTasks(1, 1, 1), 1),
            x -> x.addTask(1, 1, 1, 1), HeftPlanner.ERR_FULL);
    }

    // "n == CAP: answers `ERR_FULL` (even if costs are also bad)."
    private static void fullComesBeforeBadCosts() {
        for (State state : new State[] {State.FULL_OF_TASKS, State.FULL_OF_BOTH, State.FULL_UNPLANNED}) {
            for (int bad : BAD) {
                Refusal.due(check, "addTask, bad and full", state, x -> x.addTask(bad, bad, bad, bad),
                    HeftPlanner.ERR_FULL);
                Refusal.due(check, "addTask, one bad and full", state, x -> addWith(x, 1, bad), HeftPlanner.ERR_FULL);
            }
        }
        HeftPlanner x = new HeftPlanner(2, 2);
        x.addTask(1, 1, 1, 1);
        check.due("addTask, bad and room for one", x.addTask(0, 0, 0, 0), HeftPlanner.ERR_ARG);
    }

    // "its delay is 0", even if a delay for its id was offered before, and if all other delays are the greatest
    private static void newTaskHasNoDelay() {
        HeftPlanner x = new HeftPlanner(1, 16);
        for (int t = 0; t < 16; t++) {
            x.setDelay(t, 100);
            check.due("addTask", x.addTask(10, 0, 0, 0), t);
            Sample.ran(x, 100000);
            check.due("length of " + t + " in the replay", x.replayFinish(t) - x.replayStart(t), 10);
            check.due("setDelay(" + t + ", 100)", x.setDelay(t, 100), 0);
        }
    }

    // "the plan is discarded (planned becomes false, clock becomes 0) even if a plan existed"
    private static void admissionDiscardsThePlan() {
        for (int time : new int[] {0, 1, 12, 100000}) {
            HeftPlanner x = Sample.ran(Sample.delayedGaps(), time);
            check.due("clock() before", x.clock(), time);
            check.due("addTask", x.addTask(100, 100, 0, 0), 5);
            noPlan(x);
        }
    }

    private static void admissionWithoutPlan() {
        HeftPlanner x = new HeftPlanner(2, 3);
        for (int t = 0; t < 3; t++) {
            check.due("addTask", x.addTask(1, 1, 0, 0), t);
            noPlan(x);
        }
    }

    private static void noPlan(HeftPlanner x) {
        check.due("clock() after addTask", x.clock(), 0);
        check.due("makespan() after addTask", x.makespan(), HeftPlanner.ERR_NOPLAN);
        check.due("run(0) after addTask", x.run(0), HeftPlanner.ERR_NOPLAN);
    }

    // "Existing tasks, edges and delays are unchanged." The new task comes last everywhere, behind the others' times.
    private static void admissionKeepsTheRest() {
        HeftPlanner x = Sample.running();
        String before = Sample.shown(x);
        x.addTask(2, 2, 0, 0);
        check.due("edgeCount()", x.edgeCount(), 1);
        Sample.ran(x, 5000);
        String old = before.replace("n=5", "n=6");
        check.same("the five tasks with a sixth", Sample.shown(x), old + " [4 5 0 10 12 10 12]");
        check.due("addEdge(0, 1, 20), still there", x.addEdge(0, 1, 20), HeftPlanner.ERR_DUP);
    }
}
