import java.util.List;
import java.util.function.Consumer;
import java.util.function.Function;
import java.util.function.ObjIntConsumer;

/**
 * Tells whether calls change anything at all, even what only later calls would show: of two equal
 * objects one has the calls made on it before and after each step, and no answer of the two may
 * differ. Each getter is read on a pair of its own, lest reading one hides a change to another.
 */
final class Unchanged {
    private static final List<Function<DvpSettler, Object>> STEPS = List.of(
            x -> x.submit(Probe.parties(0, 1), 0, 2, 5),
            x -> x.submit(Probe.parties(1, 0), 0, 9, 5),
            x -> x.submit(Probe.parties(2, 0), 0, 1, 1),
            x -> x.fundCash(2, 9),
            x -> x.fundSecurity(2, 1, 6),
            x -> x.settleNow(Scene.QUEUED),
            x -> x.cycle(),
            x -> x.cancel(7),
            x -> x.clearDone(),
            x -> x.submit(Probe.parties(2, 1), 1, 4, 1),
            x -> x.submit(Probe.parties(2, 1), 1, 4, 1),
            x -> x.cycle(),
            x -> x.cycle());

    private Unchanged() { }

    static void by(Check check, Consumer<DvpSettler> calls) {
        for (int steps = 0; steps <= STEPS.size(); steps++) {
            for (String getter : State.GETTERS) {
                StringBuilder answers = new StringBuilder();
                StringBuilder due = new StringBuilder();
                DvpSettler x = played(steps, calls, answers);
                DvpSettler twin = played(steps, untouched -> { }, due);
                check.due("the first " + steps + " steps", answers.toString(), due.toString());
                check.due("what differs after step " + steps,
                        State.of(twin, getter).changesTo(State.of(x, getter)).toString(), "[]");
            }
        }
    }

    private static DvpSettler played(int steps, Consumer<DvpSettler> calls, StringBuilder answers) {
        DvpSettler x = Scene.everyStatus();
        calls.accept(x);
        for (Function<DvpSettler, Object> step : STEPS.subList(0, steps)) {
            answers.append(step.apply(x)).append(' ');
            calls.accept(x);
        }
        return x;
    }

    static void byGetter(Check check, ObjIntConsumer<DvpSettler> getter) {
        by(check, x -> {
            for (int i = -2; i <= 66; i++) {
                getter.accept(x, i);
            }
            getter.accept(x, Integer.MIN_VALUE);
            getter.accept(x, Integer.MAX_VALUE);
        });
    }
}
