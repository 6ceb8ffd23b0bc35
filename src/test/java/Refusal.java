import java.util.function.Supplier;
import java.util.function.ToIntFunction;

/** Holds an object that has had a refused call, or a query, against a twin that never had it. */
final class Refusal {
    static void due(Check check, String call, Supplier<HeftPlanner> start, ToIntFunction<HeftPlanner> refused, int code) {
        HeftPlanner x = start.get();
        check.due(call, refused.applyAsInt(x), code);
        unchanged(check, call, x, start);
    }

    static void due(Check check, String call, State state, ToIntFunction<HeftPlanner> refused, int code) {
        due(check, call + ", " + state, state.start, refused, code);
    }

    /** The tour changes the object, so it is of no use afterwards. */
    static void unchanged(Check check, String call, HeftPlanner x, Supplier<HeftPlanner> start) {
        HeftPlanner twin = start.get();
        check.same("shown after " + call, Sample.shown(x), Sample.shown(twin));
        check.same("the tour after " + call, Sample.tour(x), Sample.tour(twin));
    }
}
