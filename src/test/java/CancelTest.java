/** Promise 5. */
public final class CancelTest {
    private static final Check CHECK = new Check("cancel");

    public static void main(String[] args) {
        onlyQueuedSlotsAreCancelled();
        attemptsAndRecordAreKept();
        theLastSlotIsCancelled();
        aCancelledSlotTakesNoPartInACycle();
        CHECK.finish();
    }

    private static void onlyQueuedSlotsAreCancelled() {
        Probe t = new Probe(CHECK, 2, 1, 8, 1);
        t.fundSecurity(0, 0, 1, true, "holding(0, 0) 0 -> 1", "totalHolding(0) 0 -> 1");
        t.accepted(0, Probe.parties(0, 1), 0, 1, 0);
        t.accepted(1, Probe.parties(0, 1), 0, 1, 0);
        t.accepted(2, Probe.parties(0, 1), 0, 1, 0);
        t.settleNow(0, true, "holding(0, 0) 1 -> 0", "holding(1, 0) 0 -> 1", "status(0) 1 -> 2",
                "settledCycle(0) -1 -> 0");
        t.cancel(1, true, "status(1) 1 -> 3");
        t.cycle(0, "cycleCount() 0 -> 1", "removedAt(0) -1 -> 2", "attempts(2) 0 -> 1", "status(2) 1 -> 4");
        for (int id : new int[] {0, 1, 2, 3, 7, 8, 64, -1, Integer.MIN_VALUE, Integer.MAX_VALUE}) {
            t.cancel(id, false);
        }
    }

    private static void attemptsAndRecordAreKept() {
        Probe t = new Probe(CHECK, 2, 1, 8, 8);
        t.accepted(0, Probe.parties(1, 0), 0, 2, 2);
        t.cycle(0, "cycleCount() 0 -> 1", "removedAt(0) -1 -> 0", "attempts(0) 0 -> 1");
        t.cycle(0, "cycleCount() 1 -> 2", "attempts(0) 1 -> 2");
        t.cancel(0, true, "status(0) 1 -> 3");
        CHECK.due("attempts of the cancelled slot", t.settler().attempts(0), 2);
    }

    private static void theLastSlotIsCancelled() {
        DvpSettler x = new DvpSettler(2, 1, 64, 8);
        for (int id = 0; id < 64; id++) {
            x.submit(1, 0, 2, 2);
        }
        CHECK.due("cancel of the last slot", x.cancel(63), true);
        CHECK.due("cancel of it again", x.cancel(63), false);
        CHECK.due("cancel of the slot behind it", x.cancel(64), false);
        CHECK.due("status of the slot before it", x.status(62), DvpSettler.QUEUED);
    }

    private static void aCancelledSlotTakesNoPartInACycle() {
        Probe t = new Probe(CHECK, 2, 1, 8, 2);
        t.fundSecurity(0, 0, 5, true, "holding(0, 0) 0 -> 5", "totalHolding(0) 0 -> 5");
        t.accepted(0, Probe.parties(0, 1), 0, 5, 0);
        t.cancel(0, true, "status(0) 1 -> 3");
        t.settleNow(0, false);
        t.cycle(0, "cycleCount() 0 -> 1");
    }
}
