import java.util.function.Consumer;
import java.util.function.Supplier;
import java.util.function.ToIntFunction;

/** Holds an object that has had a refused call, or a query, against a twin that never had it. */
final class Refusal {
    static void due(Check check, String call, State state, ToIntFunction<HeftPlanner> refused, int code) {
        due(check, call + ", " + state, state.start, refused, code);
    }

    static void due(Check check, String call, Supplier<HeftPlanner> start, ToIntFunction<HeftPlanner> refused,
            int code) {
        unchanged(check, call, start, x -> check.due(call, refused.applyAsInt(x), code));
    }

    // Two objects have the calls, since to be shown or to go on tour is to have calls too.
    static void unchanged(Check check, String what, Supplier<HeftPlanner> start, Consumer<HeftPlanner> calls) {
        HeftPlanner seen = start.get();
        calls.accept(seen);
        check.same("shown after " + what, Sample.shownTwice(seen), Sample.shownTwice(start.get()));
        HeftPlanner toured = start.get();
        calls.accept(toured);
        check.same("the tour after " + what, Sample.tour(toured), Sample.tour(start.get()));
    }
}
