/** Objects that several tests start from, and what an object shows of itself. */
final class Sample {
    /**
     * Two processors, five tasks, one edge. Placement order 0 1 2 3 4; by hand:
     * task 0 on processor 0 at 0..10; task 1 on processor 1 at 30..40 (its data arrives at 10+20);
     * tasks 2 and 3 go into the gap before it, 0..5 and 5..30, which fills it to the brim;
     * task 4 comes after it, 40..41.
     */
    static HeftPlanner gaps() {
        HeftPlanner x = new HeftPlanner(2, 6);
        x.addTask(10, 50, 0, 0);
        x.addTask(50, 10, 0, 0);
        x.addTask(50, 5, 0, 0);
        x.addTask(29, 25, 0, 0);
        x.addTask(40, 1, 0, 0);
        x.addEdge(0, 1, 20);
        return x;
    }

    /** The gaps with two delays: in the replay, tasks 0 2 3 1 4 finish at 10 15 40 50 151. */
    static HeftPlanner delayedGaps() {
        HeftPlanner x = gaps();
        x.setDelay(2, 10);
        x.setDelay(4, 100);
        return x;
    }

    static HeftPlanner ran(HeftPlanner x, int time) {
        x.plan();
        x.run(time);
        return x;
    }

    /** The delayed gaps at a clock at which the whole replay is visible. */
    static HeftPlanner running() {
        return ran(delayedGaps(), 5000);
    }

    /** Equal tasks on so many processors, with no room for one more. */
    static HeftPlanner equalTasks(int processors, int count, int cost) {
        HeftPlanner x = new HeftPlanner(processors, count);
        for (int t = 0; t < count; t++) {
            x.addTask(cost, cost, cost, cost);
        }
        return x;
    }

    /** Tasks 0, 1, 2 and so on, each with an edge to the next one. */
    static HeftPlanner chain(int processors, int count, int cost, int comm) {
        HeftPlanner x = equalTasks(processors, count, cost);
        for (int t = 0; t + 1 < count; t++) {
            x.addEdge(t, t + 1, comm);
        }
        return x;
    }

    /** So many tasks, nine at least, and edges from each to the next ones, until there are 32. */
    static HeftPlanner fullOfEdges(int count) {
        HeftPlanner x = new HeftPlanner(2, 16);
        for (int t = 0; t < count; t++) {
            x.addTask(3, 3, 0, 0);
        }
        int edges = 0;
        for (int gap = 1; gap < count; gap++) {
            for (int u = 0; u + gap < count && edges < 32; u++) {
                x.addEdge(u, u + gap, gap);
                edges++;
            }
        }
        return x;
    }

    /** Everything that the object shows at once. */
    static String shown(HeftPlanner x) {
        StringBuilder all = new StringBuilder();
        all.append("n=").append(x.taskCount()).append(" m=").append(x.edgeCount());
        all.append(" clock=").append(x.clock()).append(" makespan=").append(x.makespan());
        for (int t = 0; t < x.taskCount(); t++) {
            all.append(" [");
            for (int which = 0; which < Query.NAMES.length; which++) {
                all.append(which == 0 ? "" : " ").append(Query.ask(x, which, t));
            }
            all.append(']');
        }
        return all.toString();
    }

    /** Everything that it shows at once, and then with a new plan whose replay is visible to the end. */
    static String shownTwice(HeftPlanner x) {
        String first = shown(x);
        return first + "\n  " + shown(ran(x, 100000));
    }

    /**
     * What the object answers to a fixed tour of calls, which brings out the plan, clock, costs, edges, delays and
     * room it has. The queries come last, so that one that changes something can not hide it by what the tour does.
     */
    static String tour(HeftPlanner x) {
        StringBuilder all = new StringBuilder();
        runThrough(x, all);
        planAndRunThrough(x, all);
        for (int u = 0; u < 16; u++) {
            for (int v = 0; v < 16; v++) {
                all.append(' ').append(x.addEdge(u, v, 1));
            }
        }
        planAndRunThrough(x, all);
        for (int i = 0; i <= 16; i++) {
            all.append(' ').append(x.addTask(2, 2, 2, 2));
        }
        planAndRunThrough(x, all);
        return all.append("\n  ").append(shown(x)).toString();
    }

    private static void planAndRunThrough(HeftPlanner x, StringBuilder all) {
        all.append("\n  plan ").append(x.plan());
        runThrough(x, all);
    }

    // The answers tell the clock, by the times before it, and when each task finishes.
    private static void runThrough(HeftPlanner x, StringBuilder all) {
        int last = Integer.MIN_VALUE;
        for (int time = 0; time <= 400; time++) {
            int answer = x.run(time);
            if (answer != last) {
                all.append(" run(").append(time).append(")=").append(answer);
                last = answer;
            }
        }
        all.append(" run(100000)=").append(x.run(100000));
    }
}
