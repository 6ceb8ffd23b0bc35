/** Promise 6. */
public final class RankTest {
    private static final Check check = new Check();

    public static void main(String[] args) {
        Sample.checkRefusals(check, "rank", 0);
        ranksOfTheGaps();
        greatestPathCounts();
        chainsInEitherOrder();
        check.end();
    }

    private static void ranksOfTheGaps() {
        HeftPlanner x = Sample.gaps();
        x.plan();
        int[] due = {160, 60, 55, 54, 41};
        for (int t = 0; t < 5; t++) {
            check.due("rank(" + t + ")", x.rank(t), due[t]);
        }
    }

    // The two paths differ by where their cost lies; the mean is scaled by P, the communication too.
    private static void greatestPathCounts() {
        HeftPlanner x = new HeftPlanner(3, 4);
        x.addTask(1, 2, 3, 0);
        x.addTask(10, 10, 10, 0);
        x.addTask(1, 1, 1, 0);
        x.addTask(2, 2, 3, 0);
        x.addEdge(0, 1, 0);
        x.addEdge(0, 2, 9);
        x.addEdge(1, 3, 1);
        x.addEdge(2, 3, 2);
        x.plan();
        check.due("rank(3)", x.rank(3), 7);
        check.due("rank(2)", x.rank(2), 3 + 6 + 7);
        check.due("rank(1)", x.rank(1), 30 + 3 + 7);
        check.due("rank(0)", x.rank(0), 6 + 27 + 16);
    }

    private static void chainsInEitherOrder() {
        HeftPlanner forward = Sample.equalTasks(4, 16, 100);
        HeftPlanner backward = Sample.equalTasks(4, 16, 100);
        for (int t = 0; t < 15; t++) {
            forward.addEdge(t, t + 1, 100);
            backward.addEdge(14 - t, 15 - t, 100);
        }
        forward.plan();
        backward.plan();
        for (int t = 0; t < 16; t++) {
            check.due("rank(" + t + ") forward", forward.rank(t), 400 + (15 - t) * 800);
            check.due("rank(" + t + ") backward", backward.rank(t), 400 + (15 - t) * 800);
        }
    }
}
