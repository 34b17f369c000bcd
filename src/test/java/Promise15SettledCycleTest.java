public final class Promise15SettledCycleTest {
    private static final Section SECTION = new Section("Promise 15: settledCycle");

    public static void main(String[] args) {
        settled();
        ranges();
        otherStatuses();
        SECTION.test("Changes nothing", "within and out of range", check ->
                Unchanged.byGetter(check, (x, i) -> x.settledCycle(i)));
        SECTION.finish();
    }

    private static void settled() {
        String inCycle = "answers the cycle number c in which it settled";
        SECTION.test(inCycle, "the first cycle is 1", check ->
                check.due("settledCycle(1)", Scene.everyStatus().settledCycle(Scene.SETTLED_IN_CYCLE), 1));
        SECTION.test(inCycle, "later cycles leave it", check -> {
            DvpSettler x = Scene.everyStatus();
            x.fundSecurity(2, 1, 6);
            x.cycle();
            x.cycle();
            check.due("settledCycle(1)", x.settledCycle(1), 1);
            check.due("settledCycle(4)", x.settledCycle(4), 3);
        });
        SECTION.test(inCycle, "a number that fits neither a byte nor a short", check -> {
            DvpSettler x = Scene.allQueued(8, 1);
            for (int c = 1; c < 70000; c++) {
                x.cycle();
            }
            x.clearDone();
            x.fundSecurity(0, 0, 1);
            x.submit(Probe.parties(0, 1), 0, 1, 0);
            x.cycle();
            check.due("settledCycle(0)", x.settledCycle(0), 70000);
        });
        String alone = "or 0 if it settled by settleNow";
        SECTION.test(alone, "before any cycle, and after two more", check ->
                check.due("settledCycle(0)", Scene.everyStatus().settledCycle(Scene.SETTLED_ALONE), 0));
        SECTION.test(alone, "after two cycles", check -> {
            DvpSettler x = Scene.everyStatus();
            x.fundSecurity(2, 1, 6);
            x.settleNow(Scene.QUEUED);
            check.due("settledCycle(4)", x.settledCycle(4), 0);
        });
    }

    private static void ranges() {
        String words = "Else (id out of range or status not SETTLED) -1";
        SECTION.eachUnknown(words, "id is too small", Range.below(0), allSettled(64)::settledCycle);
        for (int capacity = 8; capacity <= 64; capacity += 14) {
            SECTION.eachUnknown(words, "id is too large for " + capacity, Range.above(capacity - 1),
                    allSettled(capacity)::settledCycle);
        }
        SECTION.test("if 0 <= id < Q and slot id is SETTLED", "the first and the last slot", check -> {
            for (int capacity = 8; capacity <= 64; capacity++) {
                DvpSettler x = allSettled(capacity);
                check.due("settledCycle(0)", x.settledCycle(0), 1);
                check.due("settledCycle of the last of " + capacity, x.settledCycle(capacity - 1), 1);
            }
        });
    }

    private static DvpSettler allSettled(int capacity) {
        DvpSettler x = Scene.allQueued(capacity, 1);
        x.fundSecurity(0, 0, capacity);
        x.cycle();
        return x;
    }

    private static void otherStatuses() {
        notSettled("an empty slot", Scene.EMPTY);
        notSettled("a queued slot", Scene.QUEUED);
        notSettled("a cancelled slot", Scene.CANCELLED);
        notSettled("a failed slot", Scene.FAILED);
        SECTION.test("status not SETTLED) -1", "in slots where others settled before", check -> {
            DvpSettler x = allSettled(8);
            x.clearDone();
            check.due("settledCycle(0) of an empty slot", x.settledCycle(0), -1);
            x.submit(Probe.parties(0, 1), 0, 1, 0);
            check.due("settledCycle(0) of a queued slot", x.settledCycle(0), -1);
            x.cycle();
            check.due("settledCycle(0) of a failed slot", x.settledCycle(0), -1);
            x.submit(Probe.parties(0, 1), 0, 1, 0);
            x.cancel(1);
            check.due("settledCycle(1) of a cancelled slot", x.settledCycle(1), -1);
        });
    }

    private static void notSettled(String what, int id) {
        SECTION.test("status not SETTLED) -1", what, check ->
                check.due("settledCycle(" + id + ")", Scene.everyStatus().settledCycle(id), -1));
    }
}
