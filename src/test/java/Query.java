/** The queries by task or position, by number, for tests that ask all of them the same. */
final class Query {
    static final String[] NAMES = {"rank", "orderAt", "plannedProc", "plannedStart", "plannedFinish",
        "replayStart", "replayFinish"};
    static final int RANK = 0;
    static final int ORDER_AT = 1;
    static final int PLANNED_PROC = 2;
    static final int PLANNED_START = 3;
    static final int PLANNED_FINISH = 4;
    static final int REPLAY_START = 5;
    static final int REPLAY_FINISH = 6;

    static int ask(HeftPlanner x, int which, int index) {
        switch (which) {
            case RANK: return x.rank(index);
            case ORDER_AT: return x.orderAt(index);
            case PLANNED_PROC: return x.plannedProc(index);
            case PLANNED_START: return x.plannedStart(index);
            case PLANNED_FINISH: return x.plannedFinish(index);
            case REPLAY_START: return x.replayStart(index);
            default: return x.replayFinish(index);
        }
    }

    /** What the document says of each of them with the same words. */
    static void checkConditions(Check check, int which) {
        for (State state : State.values()) {
            if (state.planned) {
                outsideIsRefused(check, which, state);
                insideIsAnswered(check, which, state);
            } else {
                missingPlanComesFirst(check, which, state);
            }
        }
        leastAndGreatestNumberOfTasks(check, which);
        rangeFollowsTheTasks(check, which);
    }

    // "Conditions in this order: not planned: `ERR_NOPLAN`; t outside 0..n-1: `ERR_ARG`. Nothing changes."
    private static void missingPlanComesFirst(Check check, int which, State state) {
        for (int index : Bounds.outside(0, state.tasks - 1)) {
            String call = NAMES[which] + "(" + index + "), bad and no plan";
            Refusal.due(check, call, state, x -> ask(x, which, index), HeftPlanner.ERR_NOPLAN);
        }
        for (int index : Bounds.taken(0, state.tasks - 1)) {
            String call = NAMES[which] + "(" + index + "), no plan";
            Refusal.due(check, call, state, x -> ask(x, which, index), HeftPlanner.ERR_NOPLAN);
        }
    }

    // "t outside 0..n-1: `ERR_ARG`", which comes before what the clock would hide
    private static void outsideIsRefused(Check check, int which, State state) {
        for (int index : Bounds.outside(0, state.tasks - 1)) {
            String call = NAMES[which] + "(" + index + ")";
            Refusal.due(check, call, state, x -> ask(x, which, index), HeftPlanner.ERR_ARG);
        }
    }

    // "Nothing changes."
    private static void insideIsAnswered(Check check, int which, State state) {
        for (int index = 0; index < state.tasks; index++) {
            int t = index;
            String call = NAMES[which] + "(" + t + "), " + state;
            Refusal.unchanged(check, call, state.start, x -> answeredTwice(check, call, x, which, t));
        }
    }

    private static void answeredTwice(Check check, String call, HeftPlanner x, int which, int index) {
        int answer = ask(x, which, index);
        boolean hidden = which >= REPLAY_START && answer == HeftPlanner.NOT_YET;
        check.holds(call + " is answered", answer >= 0 || hidden);
        check.due(call + " again", ask(x, which, index), answer);
    }

    private static void leastAndGreatestNumberOfTasks(Check check, int which) {
        for (int count : new int[] {1, 16}) {
            HeftPlanner x = Sample.ran(Sample.equalTasks(4, count, 100), 100000);
            check.holds(NAMES[which] + "(0) of " + count, ask(x, which, 0) >= 0);
            check.holds(NAMES[which] + "(" + (count - 1) + ")", ask(x, which, count - 1) >= 0);
            check.due(NAMES[which] + "(-1) of " + count, ask(x, which, -1), HeftPlanner.ERR_ARG);
            check.due(NAMES[which] + "(" + count + ")", ask(x, which, count), HeftPlanner.ERR_ARG);
        }
    }

    private static void rangeFollowsTheTasks(Check check, int which) {
        HeftPlanner x = Sample.running();
        check.due(NAMES[which] + "(5) of five", ask(x, which, 5), HeftPlanner.ERR_ARG);
        x.addTask(1, 1, 1, 1);
        check.due(NAMES[which] + "(0) after addTask", ask(x, which, 0), HeftPlanner.ERR_NOPLAN);
        Sample.ran(x, 5000);
        check.holds(NAMES[which] + "(5) of six", ask(x, which, 5) >= 0);
        check.due(NAMES[which] + "(6) of six", ask(x, which, 6), HeftPlanner.ERR_ARG);
        x.addEdge(3, 4, 1);
        check.due(NAMES[which] + "(0) after addEdge", ask(x, which, 0), HeftPlanner.ERR_NOPLAN);
    }
}
