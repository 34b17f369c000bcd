/** Promise 7, with the getters of promises 14 to 17. */
public final class CycleTest {
    private static final Check CHECK = new Check("cycle");

    public static void main(String[] args) {
        anEmptyCycleCounts();
        aCircleSettlesWithoutAnyFunds();
        proceedsPayForPurchases();
        exactCoverSettles();
        tiesGoToTheLowestNumber();
        theLargestDeficitGoesFirst();
        deficitsAddUpOverCashAndSecurities();
        onlyPaidPurchasesAreRemovedForCash();
        purchasesStayWhenOnlyASecurityIsShort();
        onlySalesOfTheShortSecurityAreRemoved();
        theYoungestIsRemovedWhateverItsSlot();
        removedInstructionsDoNotComeBack();
        recyclingEndsInFailure();
        theRecordIsOfTheLastCycleAlone();
        otherSlotsAreUntouched();
        everySlotIsRemoved();
        theGreatestSumsFit();
        CHECK.finish();
    }

    private static void anEmptyCycleCounts() {
        Probe t = new Probe(CHECK, 2, 1, 8, 1);
        t.cycle(0, "cycleCount() 0 -> 1");
        t.cycle(0, "cycleCount() 1 -> 2");
    }

    private static void aCircleSettlesWithoutAnyFunds() {
        Probe t = new Probe(CHECK, 3, 1, 8, 1);
        t.accepted(0, Probe.parties(0, 1), 0, 10, 5);
        t.accepted(1, Probe.parties(1, 2), 0, 10, 5);
        t.accepted(2, Probe.parties(2, 0), 0, 10, 5);
        t.settleNow(0, false);
        t.cycle(3, "cycleCount() 0 -> 1", "status(0) 1 -> 2", "status(1) 1 -> 2", "status(2) 1 -> 2",
                "settledCycle(0) -1 -> 1", "settledCycle(1) -1 -> 1", "settledCycle(2) -1 -> 1");
        CHECK.due("attempts of a slot settled at once", t.settler().attempts(2), 0);
    }

    private static void proceedsPayForPurchases() {
        Probe t = new Probe(CHECK, 3, 2, 8, 1);
        t.fundSecurity(0, 0, 4, true, "holding(0, 0) 0 -> 4", "totalHolding(0) 0 -> 4");
        t.fundSecurity(2, 1, 6, true, "holding(2, 1) 0 -> 6", "totalHolding(1) 0 -> 6");
        t.fundCash(1, 30, true, "cash(1) 0 -> 30", "totalCash() 0 -> 30");
        t.accepted(0, Probe.parties(2, 0), 1, 6, 20);
        t.accepted(1, Probe.parties(0, 1), 0, 4, 25);
        t.settleNow(0, false);
        t.cycle(2, "cycleCount() 0 -> 1", "cash(0) 0 -> 5", "cash(1) 30 -> 5", "cash(2) 0 -> 20",
                "holding(0, 0) 4 -> 0", "holding(1, 0) 0 -> 4", "holding(2, 1) 6 -> 0", "holding(0, 1) 0 -> 6",
                "status(0) 1 -> 2", "status(1) 1 -> 2", "settledCycle(0) -1 -> 1", "settledCycle(1) -1 -> 1");
    }

    private static void exactCoverSettles() {
        Probe t = new Probe(CHECK, 2, 1, 8, 2);
        t.fundSecurity(0, 0, 4, true, "holding(0, 0) 0 -> 4", "totalHolding(0) 0 -> 4");
        t.fundCash(1, 8, true, "cash(1) 0 -> 8", "totalCash() 0 -> 8");
        t.accepted(0, Probe.parties(0, 1), 0, 4, 9);
        t.cycle(0, "cycleCount() 0 -> 1", "removedAt(0) -1 -> 0", "attempts(0) 0 -> 1");
        t.fundCash(1, 1, true, "cash(1) 8 -> 9", "totalCash() 8 -> 9");
        t.cycle(1, "cycleCount() 1 -> 2", "removedAt(0) 0 -> -1", "cash(1) 9 -> 0", "cash(0) 0 -> 9",
                "holding(0, 0) 4 -> 0", "holding(1, 0) 0 -> 4", "status(0) 1 -> 2", "settledCycle(0) -1 -> 2");
        CHECK.due("attempts of the settled slot", t.settler().attempts(0), 1);
    }

    private static void tiesGoToTheLowestNumber() {
        Probe t = new Probe(CHECK, 4, 1, 8, 2);
        t.accepted(0, Probe.parties(0, 1), 0, 5, 0);
        t.accepted(1, Probe.parties(2, 3), 0, 5, 0);
        t.cycle(0, "cycleCount() 0 -> 1", "removedAt(0) -1 -> 0", "removedAt(1) -1 -> 1",
                "attempts(0) 0 -> 1", "attempts(1) 0 -> 1");
    }

    private static void theLargestDeficitGoesFirst() {
        Probe t = new Probe(CHECK, 4, 1, 8, 2);
        t.accepted(0, Probe.parties(2, 3), 0, 6, 0);
        t.accepted(1, Probe.parties(0, 1), 0, 5, 0);
        t.cycle(0, "cycleCount() 0 -> 1", "removedAt(0) -1 -> 0", "removedAt(1) -1 -> 1",
                "attempts(0) 0 -> 1", "attempts(1) 0 -> 1");
    }

    private static void deficitsAddUpOverCashAndSecurities() {
        Probe t = new Probe(CHECK, 4, 2, 8, 2);
        t.fundSecurity(3, 0, 2, true, "holding(3, 0) 0 -> 2", "totalHolding(0) 0 -> 2");
        t.accepted(0, Probe.parties(0, 2), 0, 4, 0);
        t.accepted(1, Probe.parties(0, 2), 1, 3, 0);
        t.accepted(2, Probe.parties(3, 0), 0, 1, 3);
        t.accepted(3, Probe.parties(3, 1), 0, 1, 8);
        // Participant 0 is short by 3 in cash and in each security, 9 in all, against 8 of
        // participant 1; without instruction 2 it is short by 7, less than participant 1.
        t.cycle(0, "cycleCount() 0 -> 1", "removedAt(0) -1 -> 2", "removedAt(1) -1 -> 3",
                "removedAt(2) -1 -> 1", "removedAt(3) -1 -> 0", "attempts(0) 0 -> 1", "attempts(1) 0 -> 1",
                "attempts(2) 0 -> 1", "attempts(3) 0 -> 1");
    }

    private static void onlyPaidPurchasesAreRemovedForCash() {
        Probe t = new Probe(CHECK, 2, 2, 8, 2);
        t.fundSecurity(1, 0, 2, true, "holding(1, 0) 0 -> 2", "totalHolding(0) 0 -> 2");
        t.fundSecurity(0, 1, 1, true, "holding(0, 1) 0 -> 1", "totalHolding(1) 0 -> 1");
        t.accepted(0, Probe.parties(1, 0), 0, 1, 1);
        t.accepted(1, Probe.parties(1, 0), 0, 1, 0);
        t.accepted(2, Probe.parties(0, 1), 1, 1, 0);
        t.cycle(2, "cycleCount() 0 -> 1", "removedAt(0) -1 -> 0", "attempts(0) 0 -> 1",
                "holding(1, 0) 2 -> 1", "holding(0, 0) 0 -> 1", "holding(0, 1) 1 -> 0", "holding(1, 1) 0 -> 1",
                "status(1) 1 -> 2", "status(2) 1 -> 2", "settledCycle(1) -1 -> 1", "settledCycle(2) -1 -> 1");
    }

    private static void purchasesStayWhenOnlyASecurityIsShort() {
        Probe t = new Probe(CHECK, 2, 2, 8, 2);
        t.fundSecurity(1, 1, 1, true, "holding(1, 1) 0 -> 1", "totalHolding(1) 0 -> 1");
        t.fundCash(0, 3, true, "cash(0) 0 -> 3", "totalCash() 0 -> 3");
        t.accepted(0, Probe.parties(0, 1), 0, 5, 0);
        t.accepted(1, Probe.parties(1, 0), 1, 1, 3);
        t.cycle(1, "cycleCount() 0 -> 1", "removedAt(0) -1 -> 0", "attempts(0) 0 -> 1",
                "holding(1, 1) 1 -> 0", "holding(0, 1) 0 -> 1", "cash(0) 3 -> 0", "cash(1) 0 -> 3",
                "status(1) 1 -> 2", "settledCycle(1) -1 -> 1");
    }

    private static void onlySalesOfTheShortSecurityAreRemoved() {
        Probe t = new Probe(CHECK, 3, 2, 8, 2);
        t.fundSecurity(2, 0, 7, true, "holding(2, 0) 0 -> 7", "totalHolding(0) 0 -> 7");
        t.accepted(0, Probe.parties(2, 1), 1, 5, 0);
        t.accepted(1, Probe.parties(2, 1), 0, 7, 0);
        t.cycle(1, "cycleCount() 0 -> 1", "removedAt(0) -1 -> 0", "attempts(0) 0 -> 1",
                "holding(2, 0) 7 -> 0", "holding(1, 0) 0 -> 7", "status(1) 1 -> 2", "settledCycle(1) -1 -> 1");
    }

    private static void theYoungestIsRemovedWhateverItsSlot() {
        Probe t = new Probe(CHECK, 2, 1, 8, 2);
        t.fundSecurity(0, 0, 2, true, "holding(0, 0) 0 -> 2", "totalHolding(0) 0 -> 2");
        t.accepted(0, Probe.parties(0, 1), 0, 1, 0);
        t.accepted(1, Probe.parties(0, 1), 0, 1, 0);
        t.accepted(2, Probe.parties(0, 1), 0, 1, 0);
        t.cancel(1, true, "status(1) 1 -> 3");
        t.clearDone(1, "status(1) 3 -> 0", "attempts(1) 0 -> -1");
        t.accepted(1, Probe.parties(0, 1), 0, 1, 0);
        t.cycle(2, "cycleCount() 0 -> 1", "removedAt(0) -1 -> 1", "attempts(1) 0 -> 1",
                "holding(0, 0) 2 -> 0", "holding(1, 0) 0 -> 2", "status(0) 1 -> 2", "status(2) 1 -> 2",
                "settledCycle(0) -1 -> 1", "settledCycle(2) -1 -> 1");
    }

    private static void removedInstructionsDoNotComeBack() {
        Probe t = new Probe(CHECK, 3, 2, 8, 2);
        t.fundCash(1, 100, true, "cash(1) 0 -> 100", "totalCash() 0 -> 100");
        t.fundSecurity(2, 1, 1, true, "holding(2, 1) 0 -> 1", "totalHolding(1) 0 -> 1");
        t.accepted(0, Probe.parties(0, 1), 0, 10, 100);
        t.accepted(1, Probe.parties(2, 1), 1, 1, 100);
        // Instruction 1 could settle once 0 is gone, but it was removed before.
        t.cycle(0, "cycleCount() 0 -> 1", "removedAt(0) -1 -> 1", "removedAt(1) -1 -> 0",
                "attempts(0) 0 -> 1", "attempts(1) 0 -> 1");
    }

    private static void recyclingEndsInFailure() {
        Probe t = new Probe(CHECK, 2, 1, 8, 3);
        t.accepted(0, Probe.parties(0, 1), 0, 1, 0);
        t.cycle(0, "cycleCount() 0 -> 1", "removedAt(0) -1 -> 0", "attempts(0) 0 -> 1");
        t.accepted(1, Probe.parties(0, 1), 0, 1, 0);
        t.cycle(0, "cycleCount() 1 -> 2", "removedAt(0) 0 -> 1", "removedAt(1) -1 -> 0", "attempts(0) 1 -> 2",
                "attempts(1) 0 -> 1");
        t.cycle(0, "cycleCount() 2 -> 3", "attempts(0) 2 -> 3", "attempts(1) 1 -> 2", "status(0) 1 -> 4");
        t.fundSecurity(0, 0, 9, true, "holding(0, 0) 0 -> 9", "totalHolding(0) 0 -> 9");
        t.cycle(1, "cycleCount() 3 -> 4", "removedAt(0) 1 -> -1", "removedAt(1) 0 -> -1",
                "holding(0, 0) 9 -> 8", "holding(1, 0) 0 -> 1", "status(1) 1 -> 2", "settledCycle(1) -1 -> 4");
    }

    private static void theRecordIsOfTheLastCycleAlone() {
        Probe t = new Probe(CHECK, 2, 1, 8, 1);
        t.accepted(0, Probe.parties(0, 1), 0, 1, 0);
        t.accepted(1, Probe.parties(0, 1), 0, 1, 0);
        t.cycle(0, "cycleCount() 0 -> 1", "removedAt(0) -1 -> 1", "removedAt(1) -1 -> 0", "attempts(0) 0 -> 1",
                "attempts(1) 0 -> 1", "status(0) 1 -> 4", "status(1) 1 -> 4");
        t.clearDone(2, "status(0) 4 -> 0", "attempts(0) 1 -> -1", "status(1) 4 -> 0", "attempts(1) 1 -> -1");
        t.accepted(0, Probe.parties(0, 1), 0, 1, 0);
        t.cycle(0, "cycleCount() 1 -> 2", "removedAt(0) 1 -> 0", "removedAt(1) 0 -> -1", "attempts(0) 0 -> 1",
                "status(0) 1 -> 4");
        t.cycle(0, "cycleCount() 2 -> 3", "removedAt(0) 0 -> -1");
    }

    private static void otherSlotsAreUntouched() {
        Probe t = new Probe(CHECK, 2, 1, 8, 1);
        t.accepted(0, Probe.parties(0, 1), 0, 1, 0);
        t.cycle(0, "cycleCount() 0 -> 1", "removedAt(0) -1 -> 0", "attempts(0) 0 -> 1", "status(0) 1 -> 4");
        t.fundSecurity(0, 0, 9, true, "holding(0, 0) 0 -> 9", "totalHolding(0) 0 -> 9");
        t.accepted(1, Probe.parties(0, 1), 0, 1, 0);
        t.cycle(1, "cycleCount() 1 -> 2", "removedAt(0) 0 -> -1", "holding(0, 0) 9 -> 8", "holding(1, 0) 0 -> 1",
                "status(1) 1 -> 2", "settledCycle(1) -1 -> 2");
        t.accepted(2, Probe.parties(0, 1), 0, 1, 0);
        t.settleNow(2, true, "holding(0, 0) 8 -> 7", "holding(1, 0) 1 -> 2", "status(2) 1 -> 2",
                "settledCycle(2) -1 -> 0");
        t.accepted(3, Probe.parties(0, 1), 0, 1, 0);
        t.cancel(3, true, "status(3) 1 -> 3");
        t.cycle(0, "cycleCount() 2 -> 3");
    }

    private static void everySlotIsRemoved() {
        DvpSettler x = new DvpSettler(2, 1, 8, 2);
        x.fundSecurity(0, 0, 3);
        x.fundCash(1, 4);
        for (int id = 0; id < 8; id++) {
            x.submit(Probe.parties(0, 1), 0, 5, 6);
        }
        CHECK.due("a cycle that removes every slot", x.cycle(), 0);
        CHECK.due("the last removed", x.removedAt(7), 0);
        // The balances are those of an empty batch, not of the batch before the last removal.
        CHECK.due("cash(0) after it", x.cash(0), 0);
        CHECK.due("cash(1) after it", x.cash(1), 4);
        CHECK.due("holding(0, 0) after it", x.holding(0, 0), 3);
        CHECK.due("holding(1, 0) after it", x.holding(1, 0), 0);
    }

    private static void theGreatestSumsFit() {
        DvpSettler rich = new DvpSettler(2, 1, 64, 1);
        for (int i = 0; i < 100; i++) {
            rich.fundCash(i < 36 ? 0 : 1, 1000000);
            rich.fundSecurity(i < 64 ? 0 : 1, 0, 1000000);
        }
        for (int id = 0; id < 64; id++) {
            rich.submit(Probe.parties(0, 1), 0, 1000000, 1000000);
        }
        CHECK.due("a cycle of 64 of the greatest", rich.cycle(), 64);
        CHECK.due("cash of the seller", rich.cash(0), 100000000);
        CHECK.due("cash of the buyer", rich.cash(1), 0);
        CHECK.due("holding of the buyer", rich.holding(1, 0), 100000000);
        DvpSettler poor = new DvpSettler(2, 1, 64, 1);
        for (int id = 0; id < 64; id++) {
            poor.submit(Probe.parties(0, 1), 0, 1000000, 1000000);
        }
        CHECK.due("a cycle without any funds", poor.cycle(), 0);
        for (int k = 0; k < 64; k++) {
            CHECK.due("removedAt(" + k + ")", poor.removedAt(k), 63 - k);
        }
        CHECK.due("removedAt(64)", poor.removedAt(64), -1);
        CHECK.due("status(0)", poor.status(0), DvpSettler.FAILED);
    }
}
