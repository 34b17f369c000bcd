import java.util.function.Consumer;

public final class Promise17CycleCountTest {
    private static final Section SECTION = new Section("Promise 17: cycleCount");

    public static void main(String[] args) {
        SECTION.test("0 at the start", "on a new object", check ->
                check.due("cycleCount()", new DvpSettler(2, 1, 8, 1).cycleCount(), 0));
        counted();
        notCounted();
        SECTION.test("Changes nothing", "slots in every status", check ->
                Unchanged.byGetter(check, (x, i) -> x.cycleCount()));
        SECTION.finish();
    }

    private static void counted() {
        String words = "answers the number of cycle calls made so far on this object";
        SECTION.test(words, "cycles with no slot waiting", check -> {
            DvpSettler x = new DvpSettler(2, 1, 8, 1);
            x.cycle();
            check.due("cycleCount()", x.cycleCount(), 1);
            x.cycle();
            check.due("cycleCount()", x.cycleCount(), 2);
        });
        SECTION.test(words, "cycles that remove all", check -> {
            DvpSettler x = Scene.allQueued(8, 8);
            x.cycle();
            x.cycle();
            check.due("cycleCount()", x.cycleCount(), 2);
        });
        SECTION.test(words, "a cycle that settles all", check -> {
            DvpSettler x = Scene.allQueued(8, 8);
            x.fundSecurity(0, 0, 8);
            x.cycle();
            check.due("cycleCount()", x.cycleCount(), 1);
        });
        SECTION.test(words, "a number that fits neither a byte nor a short", check -> {
            DvpSettler x = new DvpSettler(2, 1, 8, 1);
            for (int i = 0; i < 70000; i++) {
                x.cycle();
            }
            check.due("cycleCount()", x.cycleCount(), 70000);
        });
        SECTION.test(words, "another object's cycles do not count", check -> {
            DvpSettler x = new DvpSettler(2, 1, 8, 1);
            DvpSettler other = new DvpSettler(2, 1, 8, 1);
            other.cycle();
            check.due("cycleCount()", x.cycleCount(), 0);
        });
    }

    private static void notCounted() {
        onlyCycles("fundCash", x -> x.fundCash(0, 1));
        onlyCycles("fundSecurity", x -> x.fundSecurity(0, 0, 1));
        onlyCycles("submit", x -> x.submit(Probe.parties(0, 1), 0, 1, 0));
        onlyCycles("cancel", x -> x.cancel(Scene.QUEUED));
        onlyCycles("settleNow", x -> {
            x.fundSecurity(2, 1, 6);
            x.settleNow(Scene.QUEUED);
        });
        onlyCycles("clearDone", x -> x.clearDone());
    }

    private static void onlyCycles(String what, Consumer<DvpSettler> calls) {
        SECTION.test("the number of cycle calls", what + " does not count", check -> {
            DvpSettler x = Scene.everyStatus();
            calls.accept(x);
            check.due("cycleCount()", x.cycleCount(), 2);
        });
    }
}
