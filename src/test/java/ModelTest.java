/** All promises together: long runs of calls, each answer held against the model's. */
public final class ModelTest {
    private static final Check check = new Check();
    private static final String[] QUERIES = {"rank", "orderAt", "plannedProc", "plannedStart", "plannedFinish",
        "replayStart", "replayFinish"};

    // A fixed sequence, so that every run of the test makes the same calls.
    private static long state = 20261115L;

    private static int next(int bound) {
        state = state * 6364136223846793005L + 1442695040888963407L;
        return (int) ((state >>> 33) % bound);
    }

    private static int between(int least, int greatest) {
        return least + next(greatest - least + 1);
    }

    public static void main(String[] args) {
        for (int round = 0; round < 400; round++) {
            playRound(round);
        }
        check.end();
    }

    private static void playRound(int round) {
        int processors = between(-1, 6);
        int capacity = between(-1, 18);
        int calls = between(20, 120);
        int greatestCost = next(2) == 0 ? 4 : 100;
        int greatestComm = new int[] {0, 3, 30, 100}[next(4)];
        HeftPlanner x = new HeftPlanner(processors, capacity);
        Model model = new Model(processors, capacity);
        for (int i = 0; i < calls; i++) {
            String name = "round " + round + " call " + i + ": ";
            boolean building = i < calls / 2;
            playCall(name, x, model, building ? next(8) : next(20), greatestCost, greatestComm);
            compareShown(name, x, model, i % 10 == 0 || i == calls - 1);
        }
    }

    private static void playCall(String name, HeftPlanner x, Model model, int kind, int greatestCost, int greatestComm) {
        int n = model.costs.size();
        if (kind < 2) {
            int[] c = {cost(greatestCost), cost(greatestCost), cost(greatestCost), cost(greatestCost)};
            check.due(name + "addTask", x.addTask(c[0], c[1], c[2], c[3]), model.addTask(c));
        } else if (kind < 7) {
            int u = between(next(9) == 0 ? -1 : 0, n);
            int v = between(next(9) == 0 ? -1 : 0, n);
            int c = next(25) == 0 ? between(99, 102) : between(next(25) == 0 ? -1 : 0, greatestComm);
            check.due(name + "addEdge " + u + " " + v + " " + c, x.addEdge(u, v, c), model.addEdge(u, v, c));
        } else if (kind < 10) {
            int t = between(-1, n);
            int d = next(3) == 0 ? between(-1, 102) : between(0, 5);
            check.due(name + "setDelay " + t + " " + d, x.setDelay(t, d), model.setDelay(t, d));
        } else if (kind < 14) {
            check.due(name + "plan", x.plan(), model.plan());
        } else {
            int time = next(9) == 0 ? between(99990, 100002) : model.clock + between(-3, 60);
            check.due(name + "run " + time, x.run(time), model.run(time));
        }
    }

    private static int cost(int greatest) {
        return next(60) == 0 ? new int[] {0, -1, 101, Integer.MIN_VALUE, Integer.MAX_VALUE}[next(5)] : between(1, greatest);
    }

    private static void compareShown(String name, HeftPlanner x, Model model, boolean everything) {
        check.due(name + "taskCount()", x.taskCount(), model.costs.size());
        check.due(name + "edgeCount()", x.edgeCount(), model.edges.size());
        check.due(name + "clock()", x.clock(), model.clock);
        check.due(name + "makespan()", x.makespan(), model.makespan());
        int step = everything ? 1 : 5;
        for (int index = -1; index <= model.costs.size(); index += step) {
            for (int which = 0; which < QUERIES.length; which++) {
                check.due(name + QUERIES[which] + "(" + index + ")", Sample.query(x, which, index), model.query(which, index));
            }
        }
    }
}
