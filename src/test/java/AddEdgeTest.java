/** Promise 3. */
public final class AddEdgeTest {
    private static final Check check = new Check();
    private static final int[] BAD_TASK = {-1, 3, 4, 16, 32, Integer.MIN_VALUE, Integer.MAX_VALUE};
    private static final int[] BAD_COMM = {-1, 101, Integer.MIN_VALUE, Integer.MAX_VALUE};

    public static void main(String[] args) {
        badArguments();
        duplicates();
        cycles();
        longCycles();
        noFalseCycles();
        fullOfEdges();
        refusedCallChangesNothing();
        admissionDiscardsThePlan();
        admissionKeepsTheRest();
        check.end();
    }

    private static void badArguments() {
        HeftPlanner x = Sample.equalTasks(2, 3, 5);
        for (int bad : BAD_TASK) {
            check.due("addEdge(" + bad + ", 0, 1)", x.addEdge(bad, 0, 1), HeftPlanner.ERR_ARG);
            check.due("addEdge(0, " + bad + ", 1)", x.addEdge(0, bad, 1), HeftPlanner.ERR_ARG);
            check.due("addEdge(" + bad + ", itself, 1)", x.addEdge(bad, bad, 1), HeftPlanner.ERR_ARG);
        }
        for (int bad : BAD_COMM) {
            check.due("addEdge(0, 1, " + bad + ")", x.addEdge(0, 1, bad), HeftPlanner.ERR_ARG);
            check.due("addEdge(1, 1, " + bad + ")", x.addEdge(1, 1, bad), HeftPlanner.ERR_ARG);
        }
        check.due("edgeCount()", x.edgeCount(), 0);
        check.due("addEdge(0, 1, 0)", x.addEdge(0, 1, 0), 0);
        check.due("addEdge(1, 2, 100)", x.addEdge(1, 2, 100), 1);
        check.due("edgeCount()", x.edgeCount(), 2);
    }

    private static void duplicates() {
        HeftPlanner x = Sample.equalTasks(2, 3, 5);
        x.addEdge(0, 1, 7);
        x.addEdge(1, 2, 7);
        for (int c : new int[] {7, 0, 100}) {
            check.due("addEdge(0, 1, " + c + ") again", x.addEdge(0, 1, c), HeftPlanner.ERR_DUP);
            check.due("addEdge(1, 2, " + c + ") again", x.addEdge(1, 2, c), HeftPlanner.ERR_DUP);
        }
        for (int bad : BAD_COMM) {
            check.due("addEdge(0, 1, " + bad + ") again", x.addEdge(0, 1, bad), HeftPlanner.ERR_ARG);
        }
        check.due("edgeCount()", x.edgeCount(), 2);
    }

    private static void cycles() {
        HeftPlanner x = Sample.equalTasks(2, 3, 5);
        for (int t = 0; t < 3; t++) {
            check.due("addEdge to itself", x.addEdge(t, t, 5), HeftPlanner.ERR_CYCLE);
        }
        x.addEdge(0, 1, 7);
        check.due("addEdge(1, 0, 7)", x.addEdge(1, 0, 7), HeftPlanner.ERR_CYCLE);
        for (int bad : BAD_COMM) {
            check.due("addEdge(1, 0, " + bad + ")", x.addEdge(1, 0, bad), HeftPlanner.ERR_ARG);
        }
        x.addEdge(1, 2, 7);
        check.due("addEdge(2, 0, 7)", x.addEdge(2, 0, 7), HeftPlanner.ERR_CYCLE);
        check.due("addEdge(2, 1, 7)", x.addEdge(2, 1, 7), HeftPlanner.ERR_CYCLE);
        check.due("addEdge(0, 2, 7)", x.addEdge(0, 2, 7), 2);
    }

    private static void longCycles() {
        HeftPlanner forward = Sample.equalTasks(2, 16, 5);
        HeftPlanner backward = Sample.equalTasks(2, 16, 5);
        for (int t = 0; t < 15; t++) {
            check.due("addEdge, chain from its head", forward.addEdge(t, t + 1, 1), t);
            check.due("addEdge, chain from its tail", backward.addEdge(14 - t, 15 - t, 1), t);
        }
        for (int v = 0; v < 16; v++) {
            for (int u = v; u < 16; u++) {
                check.due("addEdge(" + u + ", " + v + ") forward", forward.addEdge(u, v, 1), HeftPlanner.ERR_CYCLE);
                check.due("addEdge(" + u + ", " + v + ") backward", backward.addEdge(u, v, 1), HeftPlanner.ERR_CYCLE);
            }
        }
        check.due("addEdge(0, 15, 1)", forward.addEdge(0, 15, 1), 15);
        check.due("addEdge(0, 15, 1)", backward.addEdge(0, 15, 1), 15);
    }

    private static void noFalseCycles() {
        HeftPlanner x = Sample.equalTasks(2, 5, 5);
        int[][] edges = {{4, 3}, {4, 2}, {3, 1}, {2, 1}, {1, 0}, {4, 0}, {2, 3}};
        for (int e = 0; e < edges.length; e++) {
            check.due("addEdge, no cycle " + e, x.addEdge(edges[e][0], edges[e][1], 3), e);
        }
        check.due("addEdge(3, 2, 3)", x.addEdge(3, 2, 3), HeftPlanner.ERR_CYCLE);
    }

    private static void fullOfEdges() {
        HeftPlanner x = Sample.fullOfEdges();
        check.due("edgeCount()", x.edgeCount(), 32);
        check.due("addEdge, new", x.addEdge(0, 15, 1), HeftPlanner.ERR_FULL);
        check.due("addEdge, would be a cycle", x.addEdge(15, 0, 1), HeftPlanner.ERR_FULL);
        check.due("addEdge, turned", x.addEdge(1, 0, 1), HeftPlanner.ERR_FULL);
        check.due("addEdge, to itself", x.addEdge(4, 4, 1), HeftPlanner.ERR_FULL);
        check.due("addEdge, again", x.addEdge(0, 1, 9), HeftPlanner.ERR_DUP);
        check.due("addEdge, last again", x.addEdge(2, 5, 9), HeftPlanner.ERR_DUP);
        check.due("addEdge, bad task", x.addEdge(0, 16, 1), HeftPlanner.ERR_ARG);
        check.due("addEdge, bad cost", x.addEdge(0, 15, 101), HeftPlanner.ERR_ARG);
        check.due("addEdge, again with bad cost", x.addEdge(0, 1, -1), HeftPlanner.ERR_ARG);
        check.due("edgeCount()", x.edgeCount(), 32);
    }

    private static void refusedCallChangesNothing() {
        HeftPlanner x = Sample.running();
        String before = Sample.shown(x);
        x.addEdge(0, 5, 1);
        x.addEdge(0, 2, 101);
        x.addEdge(0, 1, 3);
        x.addEdge(1, 0, 3);
        x.addEdge(2, 2, 3);
        check.same("after refused edges", Sample.shown(x), before);
        x.plan();
        x.run(5000);
        check.same("a new plan after refused edges", Sample.shown(x), before);
        HeftPlanner full = Sample.fullOfEdges();
        full.plan();
        full.run(9000);
        before = Sample.shown(full);
        full.addEdge(0, 15, 1);
        check.same("after an edge too many", Sample.shown(full), before);
    }

    private static void admissionDiscardsThePlan() {
        HeftPlanner x = Sample.running();
        check.due("addEdge(2, 3, 0)", x.addEdge(2, 3, 0), 1);
        check.due("clock()", x.clock(), 0);
        check.due("makespan()", x.makespan(), HeftPlanner.ERR_NOPLAN);
        check.due("run(0)", x.run(0), HeftPlanner.ERR_NOPLAN);
    }

    private static void admissionKeepsTheRest() {
        HeftPlanner x = Sample.running();
        String before = Sample.shown(x);
        x.addEdge(0, 4, 0);
        check.due("taskCount()", x.taskCount(), 5);
        x.plan();
        x.run(5000);
        check.due("rank(0), still by its first edge", x.rank(0), 160);
        check.same("the replay, which the edge does not change", Sample.shown(x), before.replace("m=1", "m=2"));
    }
}
