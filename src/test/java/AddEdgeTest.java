/** Promise 3. */
public final class AddEdgeTest {
    private static final Check check = new Check();
    private static final int[] BAD_COMM = Bounds.outside(0, 100);

    public static void main(String[] args) {
        leastAndGreatestAreTaken();
        tasksOutsideAreRefused();
        withoutTasksAllAreRefused();
        costsOutsideAreRefused();
        duplicatesAreRefused();
        badCostComesBeforeDuplicate();
        lastEdgeIsTaken();
        fullIsRefused();
        earlierConditionsComeBeforeFull();
        fullComesBeforeCycle();
        selfLoopsAreRefused();
        turnedEdgeIsACycle();
        pathsOfEveryLengthAreCycles();
        badArgumentsComeBeforeCycle();
        noFalseCycles();
        refusedEdgeIsNotKept();
        admissionDiscardsThePlan();
        admissionKeepsTheRest();
        check.end();
    }

    private static void refused(State state, int u, int v, int c, int code) {
        Refusal.due(check, "addEdge(" + u + ", " + v + ", " + c + ")", state, x -> x.addEdge(u, v, c), code);
    }

    // "the edge gets index m, m grows by 1 [...]. The answer is the new index."
    private static void leastAndGreatestAreTaken() {
        HeftPlanner x = Sample.equalTasks(2, 16, 5);
        int[][] edges = {{0, 15, 0}, {1, 15, 1}, {0, 14, 99}, {0, 1, 100}, {15, 2, 100}, {14, 15, 0}};
        for (int e = 0; e < edges.length; e++) {
            check.due("addEdge, number " + e, x.addEdge(edges[e][0], edges[e][1], edges[e][2]), e);
            check.due("edgeCount()", x.edgeCount(), e + 1);
        }
        x.plan();
        // 15 before 2, 14 before 15: the cost of each edge shows in the rank, twice for two processors
        check.due("rank(2)", x.rank(2), 10);
        check.due("rank(15)", x.rank(15), 10 + 200 + 10);
        check.due("rank(14)", x.rank(14), 10 + 220);
        check.due("rank(1)", x.rank(1), 10 + 2 + 220);
        check.due("rank(0)", x.rank(0), 10 + 2 * 100 + 232);
    }

    // "u or v outside 0..n-1: answers `ERR_ARG`." "A refused call changes nothing at all, the plan and clock included."
    private static void tasksOutsideAreRefused() {
        for (State state : State.values()) {
            for (int bad : Bounds.outside(0, state.tasks - 1)) {
                refused(state, bad, 0, 1, HeftPlanner.ERR_ARG);
                refused(state, 0, bad, 1, HeftPlanner.ERR_ARG);
                refused(state, bad, state.tasks - 1, 1, HeftPlanner.ERR_ARG);
                refused(state, state.tasks - 1, bad, 1, HeftPlanner.ERR_ARG);
                refused(state, bad, bad, 1, HeftPlanner.ERR_ARG);
                refused(state, bad, bad, 101, HeftPlanner.ERR_ARG);
            }
        }
    }

    private static void withoutTasksAllAreRefused() {
        for (int u = -1; u <= 1; u++) {
            for (int v = -1; v <= 1; v++) {
                refused(State.EMPTY, u, v, 0, HeftPlanner.ERR_ARG);
            }
        }
        HeftPlanner one = Sample.equalTasks(2, 1, 5);
        check.due("addEdge(0, 1, 0) of one task", one.addEdge(0, 1, 0), HeftPlanner.ERR_ARG);
        check.due("addEdge(1, 0, 0) of one task", one.addEdge(1, 0, 0), HeftPlanner.ERR_ARG);
        check.due("addEdge(0, 0, 0) of one task", one.addEdge(0, 0, 0), HeftPlanner.ERR_CYCLE);
    }

    // "c outside 0..100: answers `ERR_ARG`."
    private static void costsOutsideAreRefused() {
        for (State state : State.values()) {
            for (int bad : BAD_COMM) {
                refused(state, 0, state.tasks - 1, bad, HeftPlanner.ERR_ARG);
                refused(state, 1, 2, bad, HeftPlanner.ERR_ARG);
            }
        }
    }

    // "an edge (u,v,...) already exists (whatever its cost): answers `ERR_DUP`."
    private static void duplicatesAreRefused() {
        for (State state : State.values()) {
            if (state.tasks > 0) {
                for (int c : Bounds.taken(0, 100)) {
                    refused(state, 0, 1, c, HeftPlanner.ERR_DUP);
                }
            }
        }
        for (int old : Bounds.taken(0, 100)) {
            for (int c : Bounds.taken(0, 100)) {
                String call = "addEdge(1, 2, " + c + ") beside one of " + old;
                Refusal.due(check, call, () -> Sample.ran(Sample.chain(2, 3, 5, old), 7), x -> x.addEdge(1, 2, c),
                    HeftPlanner.ERR_DUP);
            }
        }
        HeftPlanner x = Sample.fullOfEdges(9);
        for (int u = 0; u < 8; u++) {
            check.due("addEdge(" + u + ", next) again", x.addEdge(u, u + 1, 50), HeftPlanner.ERR_DUP);
        }
        check.due("addEdge, the last one again", x.addEdge(1, 7, 50), HeftPlanner.ERR_DUP);
    }

    private static void badCostComesBeforeDuplicate() {
        for (State state : new State[] {State.UNPLANNED, State.MID_RUN, State.FULL_OF_BOTH}) {
            for (int bad : BAD_COMM) {
                refused(state, 0, 1, bad, HeftPlanner.ERR_ARG);
            }
        }
    }

    // "m == 32": the edge of index 31 is the last one
    private static void lastEdgeIsTaken() {
        HeftPlanner x = Sample.equalTasks(2, 16, 3);
        int index = 0;
        for (int gap = 1; gap <= 3; gap++) {
            for (int u = 0; u + gap < 16; u++) {
                int due = index < 32 ? index : HeftPlanner.ERR_FULL;
                check.due("addEdge, number " + index, x.addEdge(u, u + gap, 1), due);
                index++;
                check.due("edgeCount()", x.edgeCount(), Math.min(index, 32));
            }
        }
    }

    // "m == 32: answers `ERR_FULL`."
    private static void fullIsRefused() {
        refused(State.FULL_OF_EDGES, 0, 8, 0, HeftPlanner.ERR_FULL);
        refused(State.FULL_OF_EDGES, 2, 8, 100, HeftPlanner.ERR_FULL);
        refused(State.FULL_OF_BOTH, 0, 15, 1, HeftPlanner.ERR_FULL);
        refused(State.FULL_UNPLANNED, 0, 15, 1, HeftPlanner.ERR_FULL);
    }

    private static void earlierConditionsComeBeforeFull() {
        for (State state : new State[] {State.FULL_OF_EDGES, State.FULL_OF_BOTH, State.FULL_UNPLANNED}) {
            refused(state, 0, state.tasks, 1, HeftPlanner.ERR_ARG);
            refused(state, -1, 0, 1, HeftPlanner.ERR_ARG);
            refused(state, 0, state.tasks - 1, 101, HeftPlanner.ERR_ARG);
            refused(state, 0, state.tasks - 1, -1, HeftPlanner.ERR_ARG);
            refused(state, 0, 1, 9, HeftPlanner.ERR_DUP);
            refused(state, 1, 3, 9, HeftPlanner.ERR_DUP);
        }
    }

    // "unless an earlier test (bad c, m == 32) already refused it"
    private static void fullComesBeforeCycle() {
        for (State state : new State[] {State.FULL_OF_EDGES, State.FULL_OF_BOTH, State.FULL_UNPLANNED}) {
            refused(state, 1, 0, 1, HeftPlanner.ERR_FULL);
            refused(state, state.tasks - 1, 0, 1, HeftPlanner.ERR_FULL);
            refused(state, 4, 4, 1, HeftPlanner.ERR_FULL);
        }
    }

    // "u == v [...]: answers `ERR_CYCLE`."
    private static void selfLoopsAreRefused() {
        for (State state : new State[] {State.UNPLANNED, State.DISCARDED, State.PLANNED, State.MID_RUN,
            State.LATEST_CLOCK, State.FULL_OF_TASKS}) {
            for (int t = 0; t < state.tasks; t++) {
                refused(state, t, t, 0, HeftPlanner.ERR_CYCLE);
                refused(state, t, t, 100, HeftPlanner.ERR_CYCLE);
            }
        }
        HeftPlanner x = Sample.equalTasks(2, 16, 5);
        for (int t = 0; t < 16; t++) {
            check.due("addEdge(" + t + ", itself)", x.addEdge(t, t, 5), HeftPlanner.ERR_CYCLE);
        }
    }

    // "Edges (u,v) and (v,u) are distinct pairs (so the second is not `ERR_DUP`), but after one is admitted the other
    // fails test 5 with `ERR_CYCLE`"
    private static void turnedEdgeIsACycle() {
        for (State state : new State[] {State.UNPLANNED, State.DISCARDED, State.PLANNED, State.MID_RUN,
            State.LATEST_CLOCK, State.FULL_OF_TASKS}) {
            for (int c : Bounds.taken(0, 100)) {
                refused(state, 1, 0, c, HeftPlanner.ERR_CYCLE);
            }
        }
        HeftPlanner x = Sample.equalTasks(2, 2, 5);
        check.due("addEdge(1, 0, 0)", x.addEdge(1, 0, 0), 0);
        check.due("addEdge(0, 1, 0)", x.addEdge(0, 1, 0), HeftPlanner.ERR_CYCLE);
    }

    // "u is reachable from v by a path of one or more admitted edges": one edge up to fifteen
    private static void pathsOfEveryLengthAreCycles() {
        HeftPlanner forward = Sample.equalTasks(2, 16, 5);
        HeftPlanner backward = Sample.equalTasks(2, 16, 5);
        for (int t = 0; t < 15; t++) {
            check.due("addEdge, chain from its head", forward.addEdge(t, t + 1, 1), t);
            check.due("addEdge, chain from its tail", backward.addEdge(14 - t, 15 - t, 1), t);
        }
        for (int v = 0; v < 16; v++) {
            for (int u = v; u < 16; u++) {
                check.due("addEdge(" + u + ", " + v + ") forward", forward.addEdge(u, v, 1), HeftPlanner.ERR_CYCLE);
                check.due("addEdge(" + u + ", " + v + ") backward", backward.addEdge(u, v, 1), HeftPlanner.ERR_CYCLE);
            }
        }
        check.due("addEdge(0, 15, 1)", forward.addEdge(0, 15, 1), 15);
        check.due("addEdge(0, 15, 1)", backward.addEdge(0, 15, 1), 15);
        Refusal.due(check, "addEdge, closing the longest path", () -> Sample.ran(Sample.chain(2, 16, 5, 1), 33),
            x -> x.addEdge(15, 0, 0), HeftPlanner.ERR_CYCLE);
    }

    private static void badArgumentsComeBeforeCycle() {
        for (int bad : BAD_COMM) {
            refused(State.MID_RUN, 1, 0, bad, HeftPlanner.ERR_ARG);
            refused(State.MID_RUN, 2, 2, bad, HeftPlanner.ERR_ARG);
            Refusal.due(check, "addEdge, long cycle of cost " + bad, () -> Sample.ran(Sample.chain(2, 4, 5, 1), 6),
                x -> x.addEdge(3, 0, bad), HeftPlanner.ERR_ARG);
        }
    }

    // A shared end, a shared source, two ways to one task and a way past a task are no cycles.
    private static void noFalseCycles() {
        HeftPlanner x = Sample.equalTasks(2, 5, 5);
        int[][] edges = {{4, 3}, {4, 2}, {3, 1}, {2, 1}, {1, 0}, {4, 0}, {2, 3}};
        for (int e = 0; e < edges.length; e++) {
            check.due("addEdge, no cycle " + e, x.addEdge(edges[e][0], edges[e][1], 3), e);
        }
        check.due("addEdge(3, 2, 3)", x.addEdge(3, 2, 3), HeftPlanner.ERR_CYCLE);
    }

    // "A refused call changes nothing at all": what was refused once is neither a duplicate nor part of a path later
    private static void refusedEdgeIsNotKept() {
        HeftPlanner x = Sample.equalTasks(2, 3, 5);
        check.due("addEdge(0, 1, 101)", x.addEdge(0, 1, 101), HeftPlanner.ERR_ARG);
        check.due("addEdge(1, 1, 1)", x.addEdge(1, 1, 1), HeftPlanner.ERR_CYCLE);
        check.due("addEdge(1, 1, 1) again", x.addEdge(1, 1, 1), HeftPlanner.ERR_CYCLE);
        check.due("addEdge(1, 0, 1)", x.addEdge(1, 0, 1), 0);
        check.due("addEdge(0, 1, 1)", x.addEdge(0, 1, 1), HeftPlanner.ERR_CYCLE);
        check.due("addEdge(0, 1, 1) again", x.addEdge(0, 1, 1), HeftPlanner.ERR_CYCLE);
        check.due("addEdge(1, 0, 100)", x.addEdge(1, 0, 100), HeftPlanner.ERR_DUP);
        check.due("addEdge(1, 2, 1)", x.addEdge(1, 2, 1), 1);
        x.plan();
        check.due("rank(1), by the cost it came with", x.rank(1), 10 + 2 + 10);
    }

    // "the plan is discarded (planned false, clock 0)"
    private static void admissionDiscardsThePlan() {
        for (int time : new int[] {0, 1, 12, 100000}) {
            HeftPlanner x = Sample.ran(Sample.delayedGaps(), time);
            check.due("clock() before", x.clock(), time);
            check.due("addEdge(2, 3, 0)", x.addEdge(2, 3, 0), 1);
            check.due("clock()", x.clock(), 0);
            check.due("makespan()", x.makespan(), HeftPlanner.ERR_NOPLAN);
            check.due("run(0)", x.run(0), HeftPlanner.ERR_NOPLAN);
        }
    }

    // "Tasks, delays and earlier edges are unchanged."
    private static void admissionKeepsTheRest() {
        HeftPlanner x = Sample.running();
        String before = Sample.shown(x);
        x.addEdge(0, 4, 0);
        check.due("taskCount()", x.taskCount(), 5);
        Sample.ran(x, 5000);
        check.due("rank(0), still by its first edge", x.rank(0), 160);
        check.same("the replay, which the edge does not change", Sample.shown(x), before.replace("m=1", "m=2"));
        check.due("addEdge(0, 1, 20), still there", x.addEdge(0, 1, 20), HeftPlanner.ERR_DUP);
    }
}
