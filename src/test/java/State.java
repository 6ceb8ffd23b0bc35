import java.util.function.Supplier;

/** Objects in every kind of state that the document tells apart; each is made anew when it is asked for. */
enum State {
    EMPTY(false, 0, () -> new HeftPlanner(2, 3)),
    UNPLANNED(false, 5, () -> delayed(Sample.gaps())),
    DISCARDED(false, 5, State::discarded),
    PLANNED(true, 5, () -> ran(Sample.gaps(), 0)),
    MID_RUN(true, 5, () -> ran(Sample.gaps(), 12)),
    LATEST_CLOCK(true, 5, () -> ran(Sample.gaps(), 100000)),
    FULL_OF_TASKS(true, 3, () -> ran(Sample.chain(2, 3, 4, 2), 6)),
    FULL_OF_EDGES(true, 9, () -> ran(Sample.fullOfEdges(9), 7)),
    FULL_OF_BOTH(true, 16, () -> ran(Sample.fullOfEdges(16), 7)),
    FULL_UNPLANNED(false, 16, () -> delayed(Sample.fullOfEdges(16)));

    final boolean planned;
    final int tasks;
    final Supplier<HeftPlanner> start;

    State(boolean planned, int tasks, Supplier<HeftPlanner> start) {
        this.planned = planned;
        this.tasks = tasks;
        this.start = start;
    }

    // Every task has a delay, so that no delay can be lost unseen. There is no query, lest it be one that loses them.
    private static HeftPlanner delayed(HeftPlanner x) {
        for (int t = 0; t < 16; t++) {
            x.setDelay(t, t + 1);
        }
        return x;
    }

    private static HeftPlanner ran(HeftPlanner x, int time) {
        return Sample.ran(delayed(x), time);
    }

    private static HeftPlanner discarded() {
        HeftPlanner x = ran(Sample.gaps(), 12);
        x.addEdge(2, 3, 0);
        return x;
    }
}
