import java.util.ArrayList;
import java.util.List;

/** The document's definitions, word by word and without a thought of speed, to hold the class against. */
final class Model {
    final int processors;
    final int capacity;
    final List<int[]> costs = new ArrayList<>();
    final List<Integer> delays = new ArrayList<>();
    final List<int[]> edges = new ArrayList<>();
    boolean planned = false;
    int clock = 0;
    List<Integer> order = new ArrayList<>();
    int[] proc = new int[16];
    int[] start = new int[16];
    int[] finish = new int[16];

    Model(int processors, int capacity) {
        this.processors = Math.max(1, Math.min(4, processors));
        this.capacity = Math.max(1, Math.min(16, capacity));
    }

    int addTask(int... c) {
        if (costs.size() == capacity) {
            return -2;
        }
        for (int p = 0; p < processors; p++) {
            if (c[p] < 1 || c[p] > 100) {
                return -1;
            }
        }
        costs.add(c.clone());
        delays.add(0);
        discard();
        return costs.size() - 1;
    }

    int addEdge(int u, int v, int c) {
        if (bad(u) || bad(v) || c < 0 || c > 100) {
            return -1;
        }
        for (int[] e : edges) {
            if (e[0] == u && e[1] == v) {
                return -3;
            }
        }
        if (edges.size() == 32) {
            return -2;
        }
        if (u == v || reachable(v, u)) {
            return -4;
        }
        edges.add(new int[] {u, v, c});
        discard();
        return edges.size() - 1;
    }

    int setDelay(int t, int d) {
        if (bad(t) || d < 0 || d > 100) {
            return -1;
        }
        delays.set(t, d);
        clock = 0;
        return 0;
    }

    int plan() {
        if (costs.isEmpty()) {
            return -5;
        }
        order = new ArrayList<>();
        for (int t = 0; t < costs.size(); t++) {
            order.add(t);
        }
        order.sort((a, b) -> scaledRank(a) != scaledRank(b) ? scaledRank(b) - scaledRank(a) : a - b);
        List<Integer> placed = new ArrayList<>();
        for (int t : order) {
            place(t, placed);
            placed.add(t);
        }
        planned = true;
        clock = 0;
        return makespan();
    }

    int makespan() {
        if (!planned) {
            return -6;
        }
        int most = 0;
        for (int t = 0; t < costs.size(); t++) {
            most = Math.max(most, finish[t]);
        }
        return most;
    }

    int run(int time) {
        if (!planned) {
            return -6;
        }
        if (time < clock || time > 100000) {
            return -1;
        }
        clock = time;
        int count = 0;
        for (int t = 0; t < costs.size(); t++) {
            count += replayedFinish(t) <= clock ? 1 : 0;
        }
        return count;
    }

    /** By the numbers of Query. */
    int query(int which, int index) {
        if (!planned) {
            return -6;
        }
        if (bad(index)) {
            return -1;
        }
        switch (which) {
            case Query.RANK: return scaledRank(index);
            case Query.ORDER_AT: return order.get(index);
            case Query.PLANNED_PROC: return proc[index];
            case Query.PLANNED_START: return start[index];
            case Query.PLANNED_FINISH: return finish[index];
            case Query.REPLAY_START: return replayedStart(index) <= clock ? replayedStart(index) : -7;
            default: return replayedFinish(index) <= clock ? replayedFinish(index) : -7;
        }
    }

    private boolean bad(int t) {
        return t < 0 || t >= costs.size();
    }

    private void discard() {
        planned = false;
        clock = 0;
    }

    private boolean reachable(int from, int to) {
        for (int[] e : edges) {
            if (e[0] == from && (e[1] == to || reachable(e[1], to))) {
                return true;
            }
        }
        return false;
    }

    private int scaledRank(int t) {
        int rest = 0;
        for (int[] e : edges) {
            if (e[0] == t) {
                rest = Math.max(rest, processors * e[2] + scaledRank(e[1]));
            }
        }
        for (int p = 0; p < processors; p++) {
            rest += costs.get(t)[p];
        }
        return rest;
    }

    private void place(int t, List<Integer> placed) {
        int least = Integer.MAX_VALUE;
        for (int p = 0; p < processors; p++) {
            int s = 0;
            for (int[] e : edges) {
                if (e[1] == t) {
                    s = Math.max(s, finish[e[0]] + (proc[e[0]] == p ? 0 : e[2]));
                }
            }
            while (overlaps(s, s + costs.get(t)[p], p, placed)) {
                s++;
            }
            if (s + costs.get(t)[p] < least) {
                least = s + costs.get(t)[p];
                proc[t] = p;
                start[t] = s;
            }
        }
        finish[t] = least;
    }

    private boolean overlaps(int a, int b, int p, List<Integer> placed) {
        for (int x : placed) {
            if (proc[x] == p && a < finish[x] && start[x] < b) {
                return true;
            }
        }
        return false;
    }

    private int replayedStart(int t) {
        int previous = -1;
        for (int x = 0; x < costs.size(); x++) {
            boolean before = proc[x] == proc[t] && start[x] < start[t];
            if (before && (previous < 0 || start[x] > start[previous])) {
                previous = x;
            }
        }
        int s = previous < 0 ? 0 : replayedFinish(previous);
        for (int[] e : edges) {
            if (e[1] == t) {
                s = Math.max(s, replayedFinish(e[0]) + (proc[e[0]] == proc[t] ? 0 : e[2]));
            }
        }
        return s;
    }

    private int replayedFinish(int t) {
        return replayedStart(t) + costs.get(t)[proc[t]] + delays.get(t);
    }
}
