/** All promises together: long runs of calls, each answer held against the model's. */
public final class ModelTest {
    private static final Check check = new Check();
    private static final FixedNumbers numbers = new FixedNumbers(20261115L);

    public static void main(String[] args) {
        for (int round = 0; round < 400; round++) {
            playRound(round);
        }
        check.end();
    }

    private static void playRound(int round) {
        int processors = numbers.between(-1, 6);
        int capacity = numbers.between(-1, 18);
        int calls = numbers.between(20, 120);
        int greatestCost = numbers.below(2) == 0 ? 4 : 100;
        int greatestComm = new int[] {0, 3, 30, 100}[numbers.below(4)];
        HeftPlanner x = new HeftPlanner(processors, capacity);
        Model model = new Model(processors, capacity);
        for (int i = 0; i < calls; i++) {
            String name = "round " + round + " call " + i + ": ";
            boolean building = i < calls / 2;
            playCall(name, x, model, building ? numbers.below(8) : numbers.below(20), greatestCost, greatestComm);
            compareShown(name, x, model, i % 10 == 0 || i == calls - 1);
        }
    }

    private static void playCall(String name, HeftPlanner x, Model model, int kind, int greatestCost,
            int greatestComm) {
        int n = model.costs.size();
        if (kind < 2) {
            int[] c = {cost(greatestCost), cost(greatestCost), cost(greatestCost), cost(greatestCost)};
            check.due(name + "addTask", x.addTask(c[0], c[1], c[2], c[3]), model.addTask(c));
        } else if (kind < 7) {
            int u = numbers.between(numbers.below(9) == 0 ? -1 : 0, n);
            int v = numbers.between(numbers.below(9) == 0 ? -1 : 0, n);
            int c = comm(greatestComm);
            check.due(name + "addEdge " + u + " " + v + " " + c, x.addEdge(u, v, c), model.addEdge(u, v, c));
        } else if (kind < 10) {
            int t = numbers.between(-1, n);
            int d = numbers.below(3) == 0 ? numbers.between(-1, 102) : numbers.between(0, 5);
            check.due(name + "setDelay " + t + " " + d, x.setDelay(t, d), model.setDelay(t, d));
        } else if (kind < 14) {
            check.due(name + "plan", x.plan(), model.plan());
        } else {
            int time = numbers.below(9) == 0 ? numbers.between(99990, 100002) : model.clock + numbers.between(-3, 60);
            check.due(name + "run " + time, x.run(time), model.run(time));
        }
    }

    private static int comm(int greatest) {
        if (numbers.below(25) == 0) {
            return numbers.between(99, 102);
        }
        return numbers.between(numbers.below(25) == 0 ? -1 : 0, greatest);
    }

    private static int cost(int greatest) {
        int[] bad = {0, -1, 101, Integer.MIN_VALUE, Integer.MAX_VALUE};
        return numbers.below(60) == 0 ? bad[numbers.below(5)] : numbers.between(1, greatest);
    }

    private static void compareShown(String name, HeftPlanner x, Model model, boolean everything) {
        check.due(name + "taskCount()", x.taskCount(), model.costs.size());
        check.due(name + "edgeCount()", x.edgeCount(), model.edges.size());
        check.due(name + "clock()", x.clock(), model.clock);
        check.due(name + "makespan()", x.makespan(), model.makespan());
        int step = everything ? 1 : 5;
        for (int index = -1; index <= model.costs.size(); index += step) {
            for (int which = 0; which < Query.NAMES.length; which++) {
                String call = name + Query.NAMES[which] + "(" + index + ")";
                check.due(call, Query.ask(x, which, index), model.query(which, index));
            }
        }
    }
}
