/** Objects that several tests start from, and everything that an object shows of itself. */
final class Sample {
    /**
     * Two processors, five tasks, one edge. Placement order 0 1 2 3 4; by hand:
     * task 0 on processor 0 at 0..10; task 1 on processor 1 at 30..40 (its data arrives at 10+20);
     * tasks 2 and 3 go into the gap before it, 0..5 and 5..30, which fills it to the brim;
     * task 4 comes after it, 40..41.
     */
    static HeftPlanner gaps() {
        HeftPlanner x = new HeftPlanner(2, 6);
        x.addTask(10, 50, 0, 0);
        x.addTask(50, 10, 0, 0);
        x.addTask(50, 5, 0, 0);
        x.addTask(29, 25, 0, 0);
        x.addTask(40, 1, 0, 0);
        x.addEdge(0, 1, 20);
        return x;
    }

    /** The gaps with a plan, two delays and a clock at which the whole replay is visible. */
    static HeftPlanner running() {
        HeftPlanner x = gaps();
        x.setDelay(2, 10);
        x.setDelay(4, 100);
        x.plan();
        x.run(5000);
        return x;
    }

    /** Equal tasks on so many processors. */
    static HeftPlanner equalTasks(int processors, int count, int cost) {
        HeftPlanner x = new HeftPlanner(processors, count);
        for (int t = 0; t < count; t++) {
            x.addTask(cost, cost, cost, cost);
        }
        return x;
    }

    /** Sixteen tasks and edges from each to the next ones, until there are 32. */
    static HeftPlanner fullOfEdges() {
        HeftPlanner x = equalTasks(2, 16, 3);
        for (int gap = 1; gap <= 3; gap++) {
            for (int u = 0; u + gap < 16 && x.edgeCount() < 32; u++) {
                x.addEdge(u, u + gap, gap);
            }
        }
        return x;
    }

    static String shown(HeftPlanner x) {
        StringBuilder all = new StringBuilder();
        all.append("n=").append(x.taskCount()).append(" m=").append(x.edgeCount());
        all.append(" clock=").append(x.clock()).append(" makespan=").append(x.makespan());
        for (int t = 0; t < x.taskCount(); t++) {
            all.append(" [").append(x.rank(t)).append(' ').append(x.orderAt(t)).append(' ').append(x.plannedProc(t));
            all.append(' ').append(x.plannedStart(t)).append(' ').append(x.plannedFinish(t));
            all.append(' ').append(x.replayStart(t)).append(' ').append(x.replayFinish(t)).append(']');
        }
        return all.toString();
    }

    /** The five queries of the plan and two of the replay, by number, for tests that ask all of them the same. */
    static int query(HeftPlanner x, int which, int index) {
        switch (which) {
            case 0: return x.rank(index);
            case 1: return x.orderAt(index);
            case 2: return x.plannedProc(index);
            case 3: return x.plannedStart(index);
            case 4: return x.plannedFinish(index);
            case 5: return x.replayStart(index);
            default: return x.replayFinish(index);
        }
    }

    /** What every query by index must refuse, and in which order. */
    static void checkRefusals(Check check, String name, int which) {
        int[] outside = {-1, -2, Integer.MIN_VALUE, 5, 6, 16, 17, 64, Integer.MAX_VALUE};
        HeftPlanner unplanned = gaps();
        HeftPlanner empty = new HeftPlanner(2, 3);
        HeftPlanner running = running();
        String before = shown(running);
        for (int index : outside) {
            check.due(name + "(" + index + ") without a plan", query(unplanned, which, index), HeftPlanner.ERR_NOPLAN);
            check.due(name + "(" + index + ") without tasks", query(empty, which, index), HeftPlanner.ERR_NOPLAN);
            check.due(name + "(" + index + ")", query(running, which, index), HeftPlanner.ERR_ARG);
        }
        for (int index = 0; index < 5; index++) {
            check.due(name + "(" + index + ") without a plan", query(unplanned, which, index), HeftPlanner.ERR_NOPLAN);
            check.holds(name + "(" + index + ") is answered", query(running, which, index) >= 0);
        }
        check.same(name + " changes nothing", shown(running), before);
        running.addTask(1, 1, 1, 1);
        check.due(name + "(0) after addTask", query(running, which, 0), HeftPlanner.ERR_NOPLAN);
        running.plan();
        running.run(5000);
        check.holds(name + "(5) is answered with six tasks", query(running, which, 5) >= 0);
        check.due(name + "(6) with six tasks", query(running, which, 6), HeftPlanner.ERR_ARG);
        running.addEdge(3, 4, 1);
        check.due(name + "(0) after addEdge", query(running, which, 0), HeftPlanner.ERR_NOPLAN);
    }
}
