/** Promise 6. */
public final class RankTest {
    private static final Check check = new Check();

    public static void main(String[] args) {
        Query.checkConditions(check, Query.RANK);
        noEdgesCountAsZero();
        leastAndGreatestRanks();
        freeEdgesCarryTheRankAlone();
        ranksOfTheGaps();
        greatestPathCounts();
        lastEdgeCounts();
        incomingEdgesDoNotCount();
        chainsInEitherOrder();
        check.end();
    }

    // "the max over no edges is 0": the rank is W(t) alone
    private static void noEdgesCountAsZero() {
        for (int processors = 1; processors <= 4; processors++) {
            HeftPlanner x = new HeftPlanner(processors, 3);
            x.addTask(1, 1, 1, 1);
            x.addTask(100, 100, 100, 100);
            x.addTask(1, 10, 20, 30);
            x.plan();
            check.due("rank(0) on " + processors, x.rank(0), processors);
            check.due("rank(1) on " + processors, x.rank(1), 100 * processors);
            check.due("rank(2) on " + processors, x.rank(2), new int[] {1, 11, 31, 61}[processors - 1]);
        }
    }

    // "no value computed here exceeds some millions"
    private static void leastAndGreatestRanks() {
        HeftPlanner least = Sample.equalTasks(1, 1, 1);
        least.plan();
        check.due("rank(0), the least", least.rank(0), 1);
        HeftPlanner greatest = Sample.chain(4, 16, 100, 100);
        greatest.plan();
        check.due("rank(0), the greatest", greatest.rank(0), 16 * 400 + 15 * 400);
        check.due("rank(15)", greatest.rank(15), 400);
    }

    private static void freeEdgesCarryTheRankAlone() {
        HeftPlanner x = Sample.chain(3, 16, 1, 0);
        x.plan();
        for (int t = 0; t < 16; t++) {
            check.due("rank(" + t + ")", x.rank(t), 3 * (16 - t));
        }
    }

    private static void ranksOfTheGaps() {
        HeftPlanner x = Sample.gaps();
        x.plan();
        int[] due = {160, 60, 55, 54, 41};
        for (int t = 0; t < 5; t++) {
            check.due("rank(" + t + ")", x.rank(t), due[t]);
        }
    }

    // The two paths differ by where their cost lies; the mean is scaled by P, the communication too.
    private static void greatestPathCounts() {
        int[][] edges = {{0, 1, 0}, {0, 2, 9}, {1, 3, 1}, {2, 3, 2}};
        for (int first = 0; first < 4; first++) {
            HeftPlanner x = new HeftPlanner(3, 4);
            x.addTask(1, 2, 3, 0);
            x.addTask(10, 10, 10, 0);
            x.addTask(1, 1, 1, 0);
            x.addTask(2, 2, 3, 0);
            for (int i = 0; i < 4; i++) {
                int[] e = edges[(first + i) % 4];
                x.addEdge(e[0], e[1], e[2]);
            }
            x.plan();
            check.due("rank(3)", x.rank(3), 7);
            check.due("rank(2)", x.rank(2), 3 + 6 + 7);
            check.due("rank(1)", x.rank(1), 30 + 3 + 7);
            check.due("rank(0)", x.rank(0), 6 + 27 + 16);
        }
    }

    // Edge 31 is the only one that leads from task 0 to the end at once.
    private static void lastEdgeCounts() {
        HeftPlanner x = Sample.chain(2, 16, 3, 1);
        for (int u = 0; u < 14; u++) {
            x.addEdge(u, u + 2, 1);
        }
        x.addEdge(0, 3, 1);
        x.addEdge(1, 4, 1);
        check.due("addEdge(0, 15, 100)", x.addEdge(0, 15, 100), 31);
        x.plan();
        check.due("rank(0)", x.rank(0), 6 + 200 + 6);
        check.due("rank(1)", x.rank(1), 15 * 6 + 14 * 2);
    }

    private static void incomingEdgesDoNotCount() {
        HeftPlanner x = Sample.equalTasks(2, 16, 10);
        for (int t = 0; t < 15; t++) {
            x.addEdge(t, 15, 100);
        }
        x.plan();
        check.due("rank(15)", x.rank(15), 20);
        for (int t = 0; t < 15; t++) {
            check.due("rank(" + t + ")", x.rank(t), 20 + 200 + 20);
        }
    }

    private static void chainsInEitherOrder() {
        HeftPlanner forward = Sample.chain(4, 16, 100, 100);
        HeftPlanner backward = Sample.equalTasks(4, 16, 100);
        for (int t = 0; t < 15; t++) {
            backward.addEdge(14 - t, 15 - t, 100);
        }
        forward.plan();
        backward.plan();
        for (int t = 0; t < 16; t++) {
            check.due("rank(" + t + ") forward", forward.rank(t), 400 + (15 - t) * 800);
            check.due("rank(" + t + ") backward", backward.rank(t), 400 + (15 - t) * 800);
        }
    }
}
