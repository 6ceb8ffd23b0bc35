import java.util.function.Supplier;

/** Objects in every kind of state that the document tells apart; each is made anew when it is asked for. */
enum State {
    EMPTY(false, 0, () -> new HeftPlanner(2, 3)),
    UNPLANNED(false, 5, Sample::delayedGaps),
    DISCARDED(false, 5, State::discarded),
    PLANNED(true, 5, () -> Sample.ran(Sample.delayedGaps(), 0)),
    MID_RUN(true, 5, () -> Sample.ran(Sample.delayedGaps(), 12)),
    LATEST_CLOCK(true, 5, () -> Sample.ran(Sample.delayedGaps(), 100000)),
    FULL_OF_TASKS(true, 3, State::fullOfTasks),
    FULL_OF_EDGES(true, 9, () -> Sample.ran(Sample.fullOfEdges(9), 7)),
    FULL_OF_BOTH(true, 16, () -> Sample.ran(Sample.fullOfEdges(16), 7)),
    FULL_UNPLANNED(false, 16, () -> Sample.fullOfEdges(16));

    final boolean planned;
    final int tasks;
    final Supplier<HeftPlanner> start;

    State(boolean planned, int tasks, Supplier<HeftPlanner> start) {
        this.planned = planned;
        this.tasks = tasks;
        this.start = start;
    }

    private static HeftPlanner discarded() {
        HeftPlanner x = Sample.running();
        x.addEdge(2, 3, 0);
        return x;
    }

    private static HeftPlanner fullOfTasks() {
        HeftPlanner x = Sample.equalTasks(2, 3, 4);
        x.addEdge(0, 1, 2);
        x.setDelay(1, 9);
        return Sample.ran(x, 6);
    }
}
