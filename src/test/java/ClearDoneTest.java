/** Promise 8. */
public final class ClearDoneTest {
    private static final Check CHECK = new Check("clearDone");

    public static void main(String[] args) {
        nothingToFree();
        everyDoneSlotIsFreed();
        sequenceNumbersGoOn();
        aFullObjectIsFreed();
        CHECK.finish();
    }

    private static void nothingToFree() {
        Probe t = new Probe(CHECK, 2, 1, 8, 2);
        t.clearDone(0);
        t.accepted(0, Probe.parties(0, 1), 0, 1, 1);
        t.cycle(0, "cycleCount() 0 -> 1", "removedAt(0) -1 -> 0", "attempts(0) 0 -> 1");
        t.clearDone(0);
    }

    private static void everyDoneSlotIsFreed() {
        Probe t = new Probe(CHECK, 2, 1, 8, 1);
        t.fundSecurity(0, 0, 3, true, "holding(0, 0) 0 -> 3", "totalHolding(0) 0 -> 3");
        t.accepted(0, Probe.parties(0, 1), 0, 1, 0);
        t.accepted(1, Probe.parties(0, 1), 0, 1, 0);
        t.accepted(2, Probe.parties(0, 1), 0, 5, 0);
        t.cancel(1, true, "status(1) 1 -> 3");
        t.cycle(1, "cycleCount() 0 -> 1", "holding(0, 0) 3 -> 2", "holding(1, 0) 0 -> 1", "status(0) 1 -> 2",
                "settledCycle(0) -1 -> 1", "removedAt(0) -1 -> 2", "attempts(2) 0 -> 1", "status(2) 1 -> 4");
        t.accepted(3, Probe.parties(0, 1), 0, 1, 0);
        t.clearDone(3, "status(0) 2 -> 0", "attempts(0) 0 -> -1", "settledCycle(0) 1 -> -1",
                "status(1) 3 -> 0", "attempts(1) 0 -> -1", "status(2) 4 -> 0", "attempts(2) 1 -> -1");
        t.clearDone(0);
        t.cancel(0, false);
        t.settleNow(2, false);
        t.cycle(1, "cycleCount() 1 -> 2", "holding(0, 0) 2 -> 1", "holding(1, 0) 1 -> 2", "status(3) 1 -> 2",
                "settledCycle(3) -1 -> 2", "removedAt(0) 2 -> -1");
    }

    private static void sequenceNumbersGoOn() {
        Probe t = new Probe(CHECK, 2, 1, 8, 8);
        t.accepted(0, Probe.parties(0, 1), 0, 1, 0);
        t.accepted(1, Probe.parties(0, 1), 0, 1, 0);
        t.accepted(2, Probe.parties(0, 1), 0, 1, 0);
        t.cancel(0, true, "status(0) 1 -> 3");
        t.clearDone(1, "status(0) 3 -> 0", "attempts(0) 0 -> -1");
        // Slot 0 now holds the youngest instruction, so it must be removed first.
        t.accepted(0, Probe.parties(0, 1), 0, 1, 0);
        t.cycle(0, "cycleCount() 0 -> 1", "removedAt(0) -1 -> 0", "removedAt(1) -1 -> 2", "removedAt(2) -1 -> 1",
                "attempts(0) 0 -> 1", "attempts(1) 0 -> 1", "attempts(2) 0 -> 1");
    }

    private static void aFullObjectIsFreed() {
        DvpSettler x = new DvpSettler(2, 1, 64, 1);
        for (int id = 0; id < 64; id++) {
            x.submit(1, 0, 1, 0);
        }
        x.cycle();
        CHECK.due("clearDone() of a full object", x.clearDone(), 64);
        CHECK.due("the record after it", x.removedAt(63), 0);
        CHECK.due("the slot used next", x.submit(1, 0, 1, 0), 0);
    }
}
