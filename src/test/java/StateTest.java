import java.util.ArrayList;
import java.util.List;
import java.util.function.ToIntFunction;

/** 'What it is': what holds of the state as a whole, whatever the calls were. */
public final class StateTest {
    private static final Check check = new Check();
    private static final int[] COSTS = {Integer.MIN_VALUE, 0, 1, 100, 101, Integer.MAX_VALUE};
    private static final int[] SMALL = {Integer.MIN_VALUE, -1, 0, 100, 101, Integer.MAX_VALUE};
    private static final int[] TIMES = {Integer.MIN_VALUE, -1, 0, 1, 12, 13, 99999, 100000, 100001, Integer.MAX_VALUE};

    public static void main(String[] args) {
        for (State state : State.values()) {
            refusedCallsChangeNothing(state);
        }
        idsAreInAdmissionOrder();
        planIsMissingAtFirst();
        discardingForgetsPlanAndClock();
        resettingForgetsTheClockAlone();
        edgesNeverMakeACycle();
        check.end();
    }

    // "A refused call answers a negative code and changes nothing at all."
    private static void refusedCallsChangeNothing(State state) {
        int number = 0;
        for (ToIntFunction<HeftPlanner> call : calls(state.tasks)) {
            number++;
            int answer = call.applyAsInt(state.start.get());
            if (answer < 0) {
                Refusal.due(check, "refused call " + number, state, call, answer);
            }
        }
    }

    // Every call that may be refused, with the values at and beyond the edges of each argument.
    private static List<ToIntFunction<HeftPlanner>> calls(int tasks) {
        int[] ids = {Integer.MIN_VALUE, -1, 0, 1, 2, tasks - 1, tasks, 16, Integer.MAX_VALUE};
        List<ToIntFunction<HeftPlanner>> all = new ArrayList<>();
        for (int a : COSTS) {
            for (int b : COSTS) {
                all.add(x -> x.addTask(a, b, b, a));
            }
        }
        for (int u : ids) {
            for (int c : SMALL) {
                for (int v : ids) {
                    all.add(x -> x.addEdge(u, v, c));
                }
                all.add(x -> x.setDelay(u, c));
            }
            for (int which = 0; which < Query.NAMES.length; which++) {
                int query = which;
                all.add(x -> Query.ask(x, query, u));
            }
        }
        for (int time : TIMES) {
            all.add(x -> x.run(time));
        }
        all.add(HeftPlanner::plan);
        all.add(HeftPlanner::makespan);
        return all;
    }

    // "ids are 0..n-1 in admission order"
    private static void idsAreInAdmissionOrder() {
        HeftPlanner x = new HeftPlanner(1, 16);
        for (int t = 0; t < 16; t++) {
            check.due("addTask", x.addTask(3 * t + 1, 0, 0, 0), t);
            check.due("addTask, refused", x.addTask(0, 0, 0, 0), t == 15 ? HeftPlanner.ERR_FULL : HeftPlanner.ERR_ARG);
        }
        x.plan();
        for (int t = 0; t < 16; t++) {
            check.due("rank(" + t + ")", x.rank(t), 3 * t + 1);
        }
    }

    // "`planned`: whether a plan exists (initially false)." "`clock`: replay time, 0..100000 (initially 0)."
    private static void planIsMissingAtFirst() {
        HeftPlanner x = new HeftPlanner(4, 16);
        check.due("makespan()", x.makespan(), HeftPlanner.ERR_NOPLAN);
        x.addTask(1, 1, 1, 1);
        check.due("makespan(), a task", x.makespan(), HeftPlanner.ERR_NOPLAN);
        check.due("clock(), a task", x.clock(), 0);
        x.addTask(1, 1, 1, 1);
        x.addEdge(0, 1, 0);
        check.due("makespan(), an edge", x.makespan(), HeftPlanner.ERR_NOPLAN);
        x.setDelay(0, 0);
        check.due("makespan(), a delay", x.makespan(), HeftPlanner.ERR_NOPLAN);
    }

    // "Discarding the plan means: planned becomes false and clock becomes 0."
    private static void discardingForgetsPlanAndClock() {
        HeftPlanner byTask = Sample.ran(Sample.gaps(), 100000);
        HeftPlanner byEdge = Sample.ran(Sample.gaps(), 100000);
        byTask.addTask(100, 100, 0, 0);
        byEdge.addEdge(4, 3, 100);
        for (HeftPlanner x : new HeftPlanner[] {byTask, byEdge}) {
            check.due("clock()", x.clock(), 0);
            check.due("makespan()", x.makespan(), HeftPlanner.ERR_NOPLAN);
            check.due("run(100000)", x.run(100000), HeftPlanner.ERR_NOPLAN);
            for (int which = 0; which < Query.NAMES.length; which++) {
                check.due(Query.NAMES[which] + "(0)", Query.ask(x, which, 0), HeftPlanner.ERR_NOPLAN);
            }
            x.plan();
            check.due("clock(), planned anew", x.clock(), 0);
        }
    }

    // "Resetting the replay means: clock becomes 0 (the plan, if any, is kept)."
    private static void resettingForgetsTheClockAlone() {
        HeftPlanner x = Sample.ran(Sample.gaps(), 100000);
        HeftPlanner fresh = Sample.ran(Sample.gaps(), 0);
        x.setDelay(0, 0);
        check.same("after a delay of 0", Sample.shown(x), Sample.shown(fresh));
    }

    // "The edge set never has a directed cycle and never two edges with the same (u,v)." Every pair is offered twice.
    private static void edgesNeverMakeACycle() {
        for (int seed = 0; seed < 60; seed++) {
            FixedNumbers numbers = new FixedNumbers(seed);
            int tasks = numbers.between(1, 16);
            HeftPlanner x = Sample.equalTasks(2, tasks, 5);
            boolean[][] reaches = new boolean[tasks][tasks];
            boolean[][] taken = new boolean[tasks][tasks];
            for (int i = 0; i < 2 * tasks * tasks; i++) {
                offer(x, numbers.below(tasks), numbers.below(tasks), reaches, taken);
            }
        }
    }

    private static void offer(HeftPlanner x, int u, int v, boolean[][] reaches, boolean[][] taken) {
        int edges = x.edgeCount();
        int due = u == v || reaches[v][u] ? HeftPlanner.ERR_CYCLE : edges;
        due = edges == 32 ? HeftPlanner.ERR_FULL : due;
        due = taken[u][v] ? HeftPlanner.ERR_DUP : due;
        check.due("addEdge(" + u + ", " + v + ", 1)", x.addEdge(u, v, 1), due);
        if (due >= 0) {
            taken[u][v] = true;
            for (int a = 0; a < reaches.length; a++) {
                for (int b = 0; b < reaches.length; b++) {
                    boolean toStart = a == u || reaches[a][u];
                    boolean fromEnd = b == v || reaches[v][b];
                    reaches[a][b] = reaches[a][b] || toStart && fromEnd;
                }
            }
        }
    }
}
