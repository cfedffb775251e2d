import java.util.List;
import java.util.function.Supplier;
import java.util.function.ToLongFunction;

/** Calls on objects of one state, after which all must be as it was: refused calls, and such as just ask. */
final class Unchanged {
    private final Checks checks;
    private final Supplier<MillPaper> state;
    private final List<Long> untouched;

    Unchanged(Checks checks, Supplier<MillPaper> state) {
        this.checks = checks;
        this.state = state;
        this.untouched = Seen.by(state.get());
    }

    void due(String call, ToLongFunction<MillPaper> asked, long want) {
        MillPaper x = state.get();
        checks.due(call, asked.applyAsLong(x), want);
        checks.holds(call + ": nothing changes", Seen.by(x).equals(untouched));
    }
}
