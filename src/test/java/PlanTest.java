/** Promise 5. */
public final class PlanTest {
    private static final Check check = new Check();
    private static final int GRAPHS = 300;

    public static void main(String[] args) {
        emptyIsRefused();
        leastAndGreatestGraphs();
        planningResetsTheClock();
        planningKeepsTheRest();
        planningAgainGivesTheSame();
        planIsReplaced();
        for (int seed = 0; seed < GRAPHS; seed++) {
            Graph graph = new Graph(new FixedNumbers(seed));
            answerIsTheMakespan(graph);
            edgesAreKept(graph);
            tasksDoNotOverlap(graph);
            replayMeetsThePlan(graph);
        }
        check.end();
    }

    // "If n == 0 it answers `ERR_EMPTY` and changes nothing."
    private static void emptyIsRefused() {
        for (int processors = 1; processors <= 4; processors++) {
            int count = processors;
            Refusal.due(check, "plan() without tasks", () -> new HeftPlanner(count, 17 - count), HeftPlanner::plan,
                HeftPlanner.ERR_EMPTY);
        }
        HeftPlanner x = new HeftPlanner(3, 3);
        x.addTask(0, 0, 0, 0);
        check.due("plan() after a refused task", x.plan(), HeftPlanner.ERR_EMPTY);
        check.due("clock()", x.clock(), 0);
        check.due("makespan()", x.makespan(), HeftPlanner.ERR_NOPLAN);
        check.due("run(0)", x.run(0), HeftPlanner.ERR_NOPLAN);
        check.due("addTask", x.addTask(1, 1, 1, 1), 0);
        check.due("plan()", x.plan(), 1);
    }

    // "planned becomes true [...] and the answer is the makespan": one short task up to sixteen long ones
    private static void leastAndGreatestGraphs() {
        for (int processors = 1; processors <= 4; processors++) {
            check.due("plan() of the least", Sample.equalTasks(processors, 1, 1).plan(), 1);
            check.due("plan() of one long task", Sample.equalTasks(processors, 1, 100).plan(), 100);
            check.due("plan() of the longest chain", Sample.chain(processors, 16, 100, 100).plan(), 1600);
        }
        check.due("plan() of sixteen", Sample.equalTasks(1, 16, 100).plan(), 1600);
        check.due("plan() of sixteen on four", Sample.equalTasks(4, 16, 100).plan(), 400);
        check.due("plan() of 32 edges", Sample.fullOfEdges(16).plan(), 48);
        check.due("plan() of 32 edges among nine", Sample.fullOfEdges(9).plan(), 27);
    }

    // "the clock becomes 0"
    private static void planningResetsTheClock() {
        for (int time : new int[] {0, 1, 12, 100000}) {
            HeftPlanner x = Sample.ran(Sample.delayedGaps(), time);
            check.due("clock() before", x.clock(), time);
            check.due("plan()", x.plan(), 41);
            check.due("clock()", x.clock(), 0);
            check.due("replayFinish(0)", x.replayFinish(0), HeftPlanner.NOT_YET);
            check.due("run(0)", x.run(0), 0);
        }
    }

    // "Tasks, edges and delays are unchanged."
    private static void planningKeepsTheRest() {
        HeftPlanner once = Sample.ran(Sample.delayedGaps(), 12);
        HeftPlanner often = Sample.running();
        often.plan();
        Sample.ran(often, 12);
        check.same("the tour after three plans", Sample.tour(often), Sample.tour(once));
    }

    // "Calling it again without changes gives the same plan."
    private static void planningAgainGivesTheSame() {
        for (State state : State.values()) {
            if (state.tasks > 0) {
                HeftPlanner x = Sample.ran(state.start.get(), 100000);
                String before = Sample.shown(x);
                for (int i = 0; i < 3; i++) {
                    check.due("plan() again", x.plan(), x.makespan());
                    x.run(100000);
                    check.same("planned again", Sample.shown(x), before);
                }
            }
        }
    }

    // "the plan is replaced by the new one"
    private static void planIsReplaced() {
        HeftPlanner x = new HeftPlanner(1, 3);
        x.addTask(10, 0, 0, 0);
        check.due("plan()", x.plan(), 10);
        x.addTask(20, 0, 0, 0);
        check.due("plan()", x.plan(), 30);
        check.due("plannedStart(1)", x.plannedStart(1), 0);
        check.due("plannedStart(0)", x.plannedStart(0), 20);
        check.due("orderAt(0)", x.orderAt(0), 1);
        x.addEdge(0, 1, 100);
        check.due("plan()", x.plan(), 30);
        check.due("plannedStart(0)", x.plannedStart(0), 0);
        check.due("plannedStart(1)", x.plannedStart(1), 10);
        check.due("orderAt(0)", x.orderAt(0), 0);
    }

    // "the answer is the makespan": "max over t of F(t)"
    private static void answerIsTheMakespan(Graph graph) {
        HeftPlanner x = graph.planner();
        int answer = x.plan();
        int greatest = 0;
        for (int t = 0; t < graph.costs.length; t++) {
            greatest = Math.max(greatest, x.plannedFinish(t));
        }
        check.due("plan()", answer, greatest);
    }

    // "for every admitted edge (u,v,c), S(v) >= F(u) + (proc(u)==proc(v) ? 0 : c)"
    private static void edgesAreKept(Graph graph) {
        HeftPlanner x = graph.planner();
        x.plan();
        for (int[] e : graph.edges) {
            int comm = x.plannedProc(e[0]) == x.plannedProc(e[1]) ? 0 : e[2];
            check.holds("edge " + e[0] + " to " + e[1], x.plannedStart(e[1]) >= x.plannedFinish(e[0]) + comm);
        }
    }

    // "any two distinct tasks on the same processor have non-overlapping intervals [S, F), and F(t) - S(t) equals
    // w(t,proc(t))"
    private static void tasksDoNotOverlap(Graph graph) {
        HeftPlanner x = graph.planner();
        x.plan();
        for (int t = 0; t < graph.costs.length; t++) {
            int length = x.plannedFinish(t) - x.plannedStart(t);
            check.due("length of " + t, length, graph.costs[t][x.plannedProc(t)]);
            for (int u = 0; u < t; u++) {
                boolean apart = x.plannedFinish(t) <= x.plannedStart(u) || x.plannedFinish(u) <= x.plannedStart(t);
                check.holds(u + " and " + t + " apart", apart || x.plannedProc(t) != x.plannedProc(u));
            }
        }
    }

    // "if every delay is 0, the replay reproduces the plan exactly: RS(t) = S(t) and RF(t) = F(t) for every t"
    private static void replayMeetsThePlan(Graph graph) {
        HeftPlanner x = graph.planner();
        x.plan();
        x.run(x.makespan());
        for (int t = 0; t < graph.costs.length; t++) {
            check.due("replayStart(" + t + ")", x.replayStart(t), x.plannedStart(t));
            check.due("replayFinish(" + t + ")", x.replayFinish(t), x.plannedFinish(t));
        }
    }
}
