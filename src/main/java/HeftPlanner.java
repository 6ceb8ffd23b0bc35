public final class HeftPlanner {
    public static final int ERR_ARG = -1;
    public static final int ERR_FULL = -2;
    public static final int ERR_DUP = -3;
    public static final int ERR_CYCLE = -4;
    public static final int ERR_EMPTY = -5;
    public static final int ERR_NOPLAN = -6;
    public static final int NOT_YET = -7;

    public static final int MAX_PROCS = 4;
    public static final int MAX_TASKS = 16;
    public static final int MAX_EDGES = 32;
    public static final int MAX_COST = 100;
    public static final int MAX_COMM = 100;
    public static final int MAX_DELAY = 100;
    public static final int MAX_TIME = 100000;

    private static final int COST_CELLS = MAX_TASKS * MAX_PROCS;
    private static final int OK = 0;
    private static final int ASCENDING = 1;
    private static final int DESCENDING = -1;

    private final int processors;
    private final int capacity;

    private int tasks = 0;
    private final int[] cost = new int[COST_CELLS];
    private final int[] delay = new int[MAX_TASKS];

    private int edges = 0;
    private final int[] edgeFrom = new int[MAX_EDGES];
    private final int[] edgeTo = new int[MAX_EDGES];
    private final int[] edgeComm = new int[MAX_EDGES];

    private boolean planned = false;
    private int span = 0;
    private final int[] rankOf = new int[MAX_TASKS];
    private final int[] order = new int[MAX_TASKS];
    private final int[] procOf = new int[MAX_TASKS];
    private final int[] startOf = new int[MAX_TASKS];
    private final int[] finishOf = new int[MAX_TASKS];

    private int now = 0;
    private final int[] byStart = new int[MAX_TASKS];
    private final int[] procFree = new int[MAX_PROCS];
    private final int[] replayedStart = new int[MAX_TASKS];
    private final int[] replayedFinish = new int[MAX_TASKS];

    public HeftPlanner(int processors, int capacity) {
        this.processors = clamp(processors, 1, MAX_PROCS);
        this.capacity = clamp(capacity, 1, MAX_TASKS);
    }

    public int addTask(int c0, int c1, int c2, int c3) {
        if (tasks == capacity) {
            return ERR_FULL;
        }
        if (!costFits(0, c0) || !costFits(1, c1) || !costFits(2, c2) || !costFits(3, c3)) {
            return ERR_ARG;
        }
        int t = tasks;
        storeCost(t, 0, c0);
        storeCost(t, 1, c1);
        storeCost(t, 2, c2);
        storeCost(t, 3, c3);
        delay[t] = 0;
        tasks = t + 1;
        discardPlan();
        return t;
    }

    public int addEdge(int u, int v, int c) {
        if (!isTask(u) || !isTask(v)) {
            return ERR_ARG;
        }
        if (!inRange(c, 0, MAX_COMM)) {
            return ERR_ARG;
        }
        if (hasEdge(u, v)) {
            return ERR_DUP;
        }
        if (edges == MAX_EDGES) {
            return ERR_FULL;
        }
        if (leadsTo(v, u)) {
            return ERR_CYCLE;
        }
        int e = edges;
        edgeFrom[e] = u;
        edgeTo[e] = v;
        edgeComm[e] = c;
        edges = e + 1;
        discardPlan();
        return e;
    }

    public int setDelay(int t, int d) {
        if (!isTask(t)) {
            return ERR_ARG;
        }
        if (!inRange(d, 0, MAX_DELAY)) {
            return ERR_ARG;
        }
        delay[t] = d;
        now = 0;
        if (planned) {
            computeReplay();
        }
        return OK;
    }

    public int plan() {
        if (tasks == 0) {
            return ERR_EMPTY;
        }
        computeRanks();
        sortTasks(order, rankOf, DESCENDING);
        placeTasks();
        sortTasks(byStart, startOf, ASCENDING);
        computeReplay();
        planned = true;
        now = 0;
        return span;
    }

    public int rank(int t) {
        int refusal = planQueryRefusal(t);
        return refusal != OK ? refusal : rankOf[t];
    }

    public int orderAt(int i) {
        int refusal = planQueryRefusal(i);
        return refusal != OK ? refusal : order[i];
    }

    public int plannedProc(int t) {
        int refusal = planQueryRefusal(t);
        return refusal != OK ? refusal : procOf[t];
    }

    public int plannedStart(int t) {
        int refusal = planQueryRefusal(t);
        return refusal != OK ? refusal : startOf[t];
    }

    public int plannedFinish(int t) {
        int refusal = planQueryRefusal(t);
        return refusal != OK ? refusal : finishOf[t];
    }

    public int makespan() {
        return planned ? span : ERR_NOPLAN;
    }

    public int run(int time) {
        if (!planned) {
            return ERR_NOPLAN;
        }
        if (!inRange(time, now, MAX_TIME)) {
            return ERR_ARG;
        }
        now = time;
        return finishedCount();
    }

    public int clock() {
        return now;
    }

    public int replayStart(int t) {
        int refusal = planQueryRefusal(t);
        return refusal != OK ? refusal : visible(replayedStart[t]);
    }

    public int replayFinish(int t) {
        int refusal = planQueryRefusal(t);
        return refusal != OK ? refusal : visible(replayedFinish[t]);
    }

    public int taskCount() {
        return tasks;
    }

    public int edgeCount() {
        return edges;
    }

    private static int clamp(int value, int least, int greatest) {
        if (value < least) {
            return least;
        }
        return value > greatest ? greatest : value;
    }

    private static boolean inRange(int value, int least, int greatest) {
        return value >= least && value <= greatest;
    }

    private boolean isTask(int t) {
        return t >= 0 && t < tasks;
    }

    // Costs of processors that this object does not have may hold any value.
    private boolean costFits(int p, int c) {
        return p >= processors || inRange(c, 1, MAX_COST);
    }

    private void storeCost(int t, int p, int c) {
        if (p < processors) {
            cost[t * MAX_PROCS + p] = c;
        }
    }

    private int costOn(int t, int p) {
        return cost[t * MAX_PROCS + p];
    }

    private void discardPlan() {
        planned = false;
        now = 0;
    }

    private int planQueryRefusal(int index) {
        if (!planned) {
            return ERR_NOPLAN;
        }
        return isTask(index) ? OK : ERR_ARG;
    }

    private boolean hasEdge(int u, int v) {
        for (int e = 0; e < edges; e++) {
            if (edgeFrom[e] == u && edgeTo[e] == v) {
                return true;
            }
        }
        return false;
    }

    // A task leads to itself, so that a self-loop counts as a cycle.
    // A path has fewer edges than there are tasks, and each pass follows every
    // path by one edge at least, so as many passes as tasks are enough.
    private boolean leadsTo(int source, int target) {
        int reached = 1 << source;
        for (int pass = 0; pass < tasks; pass++) {
            for (int e = 0; e < edges; e++) {
                if ((reached & (1 << edgeFrom[e])) != 0) {
                    reached = reached | (1 << edgeTo[e]);
                }
            }
        }
        return (reached & (1 << target)) != 0;
    }

    // Every pass carries ranks by one edge at least against the edges'
    // direction, so as many passes as tasks are enough for the longest path.
    private void computeRanks() {
        for (int t = 0; t < tasks; t++) {
            rankOf[t] = totalCost(t);
        }
        for (int pass = 0; pass < tasks; pass++) {
            for (int e = 0; e < edges; e++) {
                raiseRank(e);
            }
        }
    }

    private void raiseRank(int e) {
        int u = edgeFrom[e];
        int through = totalCost(u) + processors * edgeComm[e] + rankOf[edgeTo[e]];
        if (through > rankOf[u]) {
            rankOf[u] = through;
        }
    }

    private int totalCost(int t) {
        int sum = 0;
        for (int p = 0; p < processors; p++) {
            sum += costOn(t, p);
        }
        return sum;
    }

    // Insertion in id order moves a task past strictly worse keys only, which
    // leaves equal keys with the smaller id first.
    private void sortTasks(int[] list, int[] key, int direction) {
        for (int t = 0; t < tasks; t++) {
            int place = t;
            while (place > 0 && direction * key[list[place - 1]] > direction * key[t]) {
                list[place] = list[place - 1];
                place--;
            }
            list[place] = t;
        }
    }

    private void placeTasks() {
        span = 0;
        for (int i = 0; i < tasks; i++) {
            placeTask(i);
            int finish = finishOf[order[i]];
            if (finish > span) {
                span = finish;
            }
        }
    }

    // The tasks before this position of the order are the placed ones.
    private void placeTask(int position) {
        int t = order[position];
        int bestProc = 0;
        int bestStart = earliestStart(t, 0, position);
        int bestFinish = bestStart + costOn(t, 0);
        for (int p = 1; p < processors; p++) {
            int start = earliestStart(t, p, position);
            int finish = start + costOn(t, p);
            if (finish < bestFinish) {
                bestProc = p;
                bestStart = start;
                bestFinish = finish;
            }
        }
        procOf[t] = bestProc;
        startOf[t] = bestStart;
        finishOf[t] = bestFinish;
    }

    // A start that overlaps a placed task moves to that task's finish: nothing
    // earlier can fit, and the task is never in the way again. So every pass
    // that moves the start is done with one placed task more.
    private int earliestStart(int t, int p, int placed) {
        int length = costOn(t, p);
        int start = dataReady(t, p, finishOf);
        for (int pass = 0; pass < placed; pass++) {
            for (int i = 0; i < placed; i++) {
                int x = order[i];
                if (procOf[x] == p && startOf[x] < start + length && start < finishOf[x]) {
                    start = finishOf[x];
                }
            }
        }
        return start;
    }

    // Serves the plan and the replay, which differ in the finish times alone.
    private int dataReady(int t, int p, int[] finish) {
        int ready = 0;
        for (int e = 0; e < edges; e++) {
            if (edgeTo[e] == t) {
                int u = edgeFrom[e];
                int arrival = procOf[u] == p ? finish[u] : finish[u] + edgeComm[e];
                if (arrival > ready) {
                    ready = arrival;
                }
            }
        }
        return ready;
    }

    // In order of planned start, everything a task waits for comes before it.
    private void computeReplay() {
        for (int p = 0; p < processors; p++) {
            procFree[p] = 0;
        }
        for (int i = 0; i < tasks; i++) {
            int t = byStart[i];
            int p = procOf[t];
            int ready = dataReady(t, p, replayedFinish);
            int start = procFree[p] > ready ? procFree[p] : ready;
            int finish = start + costOn(t, p) + delay[t];
            replayedStart[t] = start;
            replayedFinish[t] = finish;
            procFree[p] = finish;
        }
    }

    private int finishedCount() {
        int count = 0;
        for (int t = 0; t < tasks; t++) {
            if (replayedFinish[t] <= now) {
                count++;
            }
        }
        return count;
    }

    private int visible(int time) {
        return time <= now ? time : NOT_YET;
    }
}
