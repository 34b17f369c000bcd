import java.util.List;
import java.util.function.Consumer;
import java.util.function.Function;
import java.util.function.ObjIntConsumer;

/**
 * Tells whether calls change anything at all, even what only later calls would show: of two equal
 * objects one has the calls made on it before each step, and no answer of the two may differ.
 */
final class Unchanged {
    private static final List<Function<DvpSettler, Object>> STEPS = List.of(
            x -> x.submit(Probe.parties(0, 1), 0, 2, 5),
            x -> x.submit(Probe.parties(1, 0), 0, 9, 5),
            x -> x.submit(Probe.parties(2, 0), 0, 1, 1),
            x -> x.fundCash(2, 9),
            x -> x.fundSecurity(2, 1, 6),
            x -> x.settleNow(Scene.QUEUED),
            x -> x.cycle(),
            x -> x.cancel(7),
            x -> x.clearDone(),
            x -> x.submit(Probe.parties(2, 1), 1, 4, 1),
            x -> x.submit(Probe.parties(2, 1), 1, 4, 1),
            x -> x.cycle(),
            x -> x.cycle());

    private Unchanged() { }

    static void by(Check check, Consumer<DvpSettler> calls) {
        DvpSettler x = Scene.everyStatus();
        DvpSettler twin = Scene.everyStatus();
        for (int i = 0; i < STEPS.size(); i++) {
            calls.accept(x);
            compare(check, "before step " + i, x, twin);
            check.due("step " + i, STEPS.get(i).apply(x), STEPS.get(i).apply(twin));
            compare(check, "after step " + i, x, twin);
        }
    }

    static void byGetter(Check check, ObjIntConsumer<DvpSettler> getter) {
        by(check, x -> {
            for (int i = -2; i <= 66; i++) {
                getter.accept(x, i);
            }
            getter.accept(x, Integer.MIN_VALUE);
            getter.accept(x, Integer.MAX_VALUE);
        });
    }

    private static void compare(Check check, String when, DvpSettler x, DvpSettler twin) {
        check.due("what differs " + when, State.of(twin).changesTo(State.of(x)).toString(), "[]");
    }
}
