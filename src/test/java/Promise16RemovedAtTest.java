import java.util.Set;
import java.util.TreeSet;
import java.util.function.Consumer;

public final class Promise16RemovedAtTest {
    private static final Section SECTION = new Section("Promise 16: removedAt");

    public static void main(String[] args) {
        ranges();
        noRemovals();
        otherCalls();
        SECTION.test("Changes nothing", "within and out of range", check ->
                Unchanged.byGetter(check, (x, i) -> x.removedAt(i)));
        SECTION.finish();
    }

    private static void ranges() {
        String words = "0 <= k < the number of instructions removed in it; else -1";
        SECTION.test("answers the id removed k-th (k from 0)", "the first and the last of two", check -> {
            DvpSettler x = Scene.everyStatus();
            check.due("removedAt(0)", x.removedAt(0), 4);
            check.due("removedAt(1)", x.removedAt(1), 3);
        });
        SECTION.eachUnknown(words, "k behind the last of two", Range.above(1), Scene.everyStatus()::removedAt);
        DvpSettler allRemoved = Scene.allQueued(64, 2);
        allRemoved.cycle();
        SECTION.test(words, "the first and the last of 64", check -> {
            check.due("removedAt(0)", allRemoved.removedAt(0), 63);
            check.due("removedAt(63)", allRemoved.removedAt(63), 0);
        });
        SECTION.eachUnknown(words, "k behind the last of 64", Range.above(63), allRemoved::removedAt);
        SECTION.eachUnknown("including any negative k", "after 64 were removed", Range.below(0), allRemoved::removedAt);
    }

    private static void noRemovals() {
        SECTION.test("any k before the first cycle", "with every slot waiting", check ->
                check.due("the answers", every(Scene.allQueued(64, 1)), "[-1]"));
        SECTION.test("any k before the first cycle", "on a new object", check ->
                check.due("the answers", every(new DvpSettler(2, 1, 8, 1)), "[-1]"));
        SECTION.test("every k after a cycle that removed nothing", "all were settled", check -> {
            DvpSettler x = Scene.allQueued(64, 8);
            x.cycle();
            x.fundSecurity(0, 0, 64);
            x.cycle();
            check.due("the answers", every(x), "[-1]");
        });
        SECTION.test("every k after a cycle that removed nothing", "none was waiting", check -> {
            DvpSettler x = Scene.allQueued(64, 1);
            x.cycle();
            x.cycle();
            check.due("the answers", every(x), "[-1]");
        });
        SECTION.test("in step 3 of the most recent cycle", "fewer than in the one before", check -> {
            DvpSettler x = Scene.allQueued(8, 8);
            x.cycle();
            x.fundSecurity(0, 0, 6);
            x.cycle();
            check.due("the record", Probe.record(x), "[7, 6]");
            check.due("removedAt(2)", x.removedAt(2), -1);
            check.due("removedAt(7)", x.removedAt(7), -1);
        });
    }

    /** The different answers for k far below 0 up to far above the slots. */
    private static String every(DvpSettler x) {
        Set<Integer> answers = new TreeSet<>();
        for (int k = -100; k <= 200; k++) {
            answers.add(x.removedAt(k));
        }
        answers.add(x.removedAt(Integer.MIN_VALUE));
        answers.add(x.removedAt(Integer.MAX_VALUE));
        return answers.toString();
    }

    private static void otherCalls() {
        recordStays("clearDone", x -> x.clearDone());
        recordStays("clearDone and submissions to the freed slots", x -> {
            x.clearDone();
            for (int i = 0; i < 8; i++) {
                x.submit(Probe.parties(0, 1), 0, 1, 0);
            }
        });
        recordStays("cancel of a removed slot", x -> x.cancel(Scene.QUEUED));
        recordStays("settleNow of a removed slot", x -> {
            x.fundSecurity(2, 1, 6);
            x.settleNow(Scene.QUEUED);
        });
        recordStays("fundCash", x -> x.fundCash(0, 1));
        recordStays("fundSecurity", x -> x.fundSecurity(0, 0, 1));
        recordStays("submit", x -> x.submit(Probe.parties(0, 1), 0, 1, 0));
        recordStays("refused calls", x -> {
            x.fundCash(-1, 0);
            x.fundSecurity(-1, -1, 0);
            x.submit(-1, -1, -1, -1);
            x.cancel(-1);
            x.settleNow(-1);
        });
    }

    private static void recordStays(String what, Consumer<DvpSettler> calls) {
        SECTION.test("The record is not affected by clearDone or any other call except cycle", what, check -> {
            DvpSettler x = Scene.everyStatus();
            calls.accept(x);
            check.due("the record", Probe.record(x), "[4, 3]");
        });
    }
}
