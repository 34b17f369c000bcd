/** Promise 6. */
public final class SettleNowTest {
    private static final Check CHECK = new Check("settleNow");

    public static void main(String[] args) {
        bothLegsMoveTogether();
        oneMissingUnitRefuses();
        wrongSlotsAreRefused();
        aFreeDeliveryNeedsNoCash();
        attemptsAndRecordAreKept();
        othersBalancesDoNotHelp();
        CHECK.finish();
    }

    private static Probe funded(int quantity, int cash) {
        Probe t = new Probe(CHECK, 3, 2, 8, 3);
        t.fundSecurity(2, 1, quantity, true, "holding(2, 1) 0 -> " + quantity, "totalHolding(1) 0 -> " + quantity);
        t.fundCash(0, cash, true, "cash(0) 0 -> " + cash, "totalCash() 0 -> " + cash);
        t.accepted(0, Probe.parties(2, 0), 1, 10, 70);
        return t;
    }

    private static void bothLegsMoveTogether() {
        Probe exact = funded(10, 70);
        exact.settleNow(0, true, "holding(2, 1) 10 -> 0", "holding(0, 1) 0 -> 10", "cash(0) 70 -> 0",
                "cash(2) 0 -> 70", "status(0) 1 -> 2", "settledCycle(0) -1 -> 0");
        exact.settleNow(0, false);
        Probe more = funded(15, 100);
        more.accepted(1, Probe.parties(2, 0), 1, 5, 30);
        more.settleNow(1, true, "holding(2, 1) 15 -> 10", "holding(0, 1) 0 -> 5", "cash(0) 100 -> 70",
                "cash(2) 0 -> 30", "status(1) 1 -> 2", "settledCycle(1) -1 -> 0");
        more.settleNow(0, true, "holding(2, 1) 10 -> 0", "holding(0, 1) 5 -> 15", "cash(0) 70 -> 0",
                "cash(2) 30 -> 100", "status(0) 1 -> 2", "settledCycle(0) -1 -> 0");
    }

    private static void oneMissingUnitRefuses() {
        funded(9, 70).settleNow(0, false);
        funded(10, 69).settleNow(0, false);
        funded(9, 69).settleNow(0, false);
    }

    private static void wrongSlotsAreRefused() {
        Probe t = funded(1000, 1000);
        for (int id : new int[] {-1, 1, 7, 8, 63, 64, Integer.MIN_VALUE, Integer.MAX_VALUE}) {
            t.settleNow(id, false);
        }
        t.cancel(0, true, "status(0) 1 -> 3");
        t.settleNow(0, false);
        Probe failed = new Probe(CHECK, 2, 1, 8, 1);
        failed.accepted(0, Probe.parties(0, 1), 0, 1, 0);
        failed.cycle(0, "cycleCount() 0 -> 1", "removedAt(0) -1 -> 0", "attempts(0) 0 -> 1", "status(0) 1 -> 4");
        failed.fundSecurity(0, 0, 1, true, "holding(0, 0) 0 -> 1", "totalHolding(0) 0 -> 1");
        failed.settleNow(0, false);
    }

    private static void aFreeDeliveryNeedsNoCash() {
        Probe t = new Probe(CHECK, 2, 1, 8, 1);
        t.fundSecurity(1, 0, 3, true, "holding(1, 0) 0 -> 3", "totalHolding(0) 0 -> 3");
        t.accepted(0, Probe.parties(1, 0), 0, 3, 0);
        t.settleNow(0, true, "holding(1, 0) 3 -> 0", "holding(0, 0) 0 -> 3", "status(0) 1 -> 2",
                "settledCycle(0) -1 -> 0");
    }

    private static void attemptsAndRecordAreKept() {
        Probe t = new Probe(CHECK, 2, 1, 8, 3);
        t.accepted(0, Probe.parties(0, 1), 0, 4, 0);
        t.cycle(0, "cycleCount() 0 -> 1", "removedAt(0) -1 -> 0", "attempts(0) 0 -> 1");
        t.cycle(0, "cycleCount() 1 -> 2", "attempts(0) 1 -> 2");
        t.fundSecurity(0, 0, 4, true, "holding(0, 0) 0 -> 4", "totalHolding(0) 0 -> 4");
        t.settleNow(0, true, "holding(0, 0) 4 -> 0", "holding(1, 0) 0 -> 4", "status(0) 1 -> 2",
                "settledCycle(0) -1 -> 0");
        CHECK.due("attempts of the settled slot", t.settler().attempts(0), 2);
    }

    private static void othersBalancesDoNotHelp() {
        Probe t = new Probe(CHECK, 3, 2, 8, 3);
        t.accepted(0, Probe.parties(2, 0), 1, 10, 70);
        t.fundSecurity(0, 1, 99, true, "holding(0, 1) 0 -> 99", "totalHolding(1) 0 -> 99");
        t.fundSecurity(2, 0, 99, true, "holding(2, 0) 0 -> 99", "totalHolding(0) 0 -> 99");
        t.fundCash(0, 99, true, "cash(0) 0 -> 99", "totalCash() 0 -> 99");
        t.settleNow(0, false);
        t.fundSecurity(2, 1, 10, true, "holding(2, 1) 0 -> 10", "totalHolding(1) 99 -> 109");
        t.settleNow(0, true, "holding(2, 1) 10 -> 0", "holding(0, 1) 99 -> 109", "cash(0) 99 -> 29",
                "cash(2) 0 -> 70", "status(0) 1 -> 2", "settledCycle(0) -1 -> 0");
    }
}
