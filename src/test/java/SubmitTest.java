/** Promise 4. */
public final class SubmitTest {
    private static final Check CHECK = new Check("submit");
    private static final int MIN = Integer.MIN_VALUE;
    private static final int MAX = Integer.MAX_VALUE;

    public static void main(String[] args) {
        wrongInstructionsAreRefused();
        theEdgesAreAccepted();
        everyPairIsJudged();
        fullSlotsRefuse();
        theLowestEmptySlotIsUsed();
        aSlotUsedAgainStartsAnew();
        theRecordAndTheCountStay();
        CHECK.finish();
    }

    private static void wrongInstructionsAreRefused() {
        Probe t = new Probe(CHECK, 3, 2, 8, 2);
        for (int parties : new int[] {-1, 256, 257, MIN, MIN + 1, MAX, -15, 65537}) {
            t.refused(parties, 0, 1, 1);
        }
        for (int security : new int[] {-1, 2, 3, 4, MIN, MAX}) {
            t.refused(1, security, 1, 1);
        }
        for (int quantity : new int[] {0, -1, 1000001, MIN, MAX}) {
            t.refused(1, 0, quantity, 1);
        }
        for (int amount : new int[] {-1, 1000001, MIN, MAX}) {
            t.refused(1, 0, 1, amount);
        }
    }

    private static void theEdgesAreAccepted() {
        Probe t = new Probe(CHECK, 3, 2, 8, 2);
        t.accepted(0, Probe.parties(0, 1), 0, 1, 0);
        t.accepted(1, Probe.parties(2, 0), 1, 1000000, 1000000);
        t.accepted(2, Probe.parties(1, 2), 1, 1, 1);
    }

    private static void everyPairIsJudged() {
        for (int participants = 2; participants <= 8; participants++) {
            for (int parties = -20; parties <= 300; parties++) {
                DvpSettler x = new DvpSettler(participants, 1, 8, 1);
                boolean fits = false;
                for (int seller = 0; seller < participants; seller++) {
                    for (int buyer = 0; buyer < participants; buyer++) {
                        fits |= seller != buyer && parties == Probe.parties(seller, buyer);
                    }
                }
                CHECK.due("submit of parties " + parties + " among " + participants,
                        x.submit(parties, 0, 1, 1), fits ? 0 : -1);
            }
        }
    }

    private static void fullSlotsRefuse() {
        Probe t = new Probe(CHECK, 2, 1, 9, 2);
        for (int id = 0; id < 9; id++) {
            t.accepted(id, Probe.parties(1, 0), 0, 1, 1);
        }
        t.refused(Probe.parties(1, 0), 0, 1, 1);
        t.cancel(3, true, "status(3) 1 -> 3");
        t.refused(Probe.parties(1, 0), 0, 1, 1);
        t.clearDone(1, "status(3) 3 -> 0", "attempts(3) 0 -> -1");
        t.accepted(3, Probe.parties(1, 0), 0, 1, 1);
        t.refused(Probe.parties(1, 0), 0, 1, 1);
    }

    private static void theLowestEmptySlotIsUsed() {
        Probe t = new Probe(CHECK, 2, 1, 8, 2);
        for (int id = 0; id < 6; id++) {
            t.accepted(id, Probe.parties(0, 1), 0, 1, 1);
        }
        t.cancel(4, true, "status(4) 1 -> 3");
        t.cancel(1, true, "status(1) 1 -> 3");
        t.clearDone(2, "status(1) 3 -> 0", "attempts(1) 0 -> -1", "status(4) 3 -> 0", "attempts(4) 0 -> -1");
        t.accepted(1, Probe.parties(0, 1), 0, 1, 1);
        t.accepted(4, Probe.parties(0, 1), 0, 1, 1);
        t.accepted(6, Probe.parties(0, 1), 0, 1, 1);
    }

    private static void aSlotUsedAgainStartsAnew() {
        Probe t = new Probe(CHECK, 3, 2, 8, 1);
        t.accepted(0, Probe.parties(0, 1), 0, 5, 6);
        t.cycle(0, "cycleCount() 0 -> 1", "removedAt(0) -1 -> 0", "attempts(0) 0 -> 1", "status(0) 1 -> 4");
        t.clearDone(1, "status(0) 4 -> 0", "attempts(0) 1 -> -1");
        t.accepted(0, Probe.parties(2, 0), 1, 7, 8);
        t.fundSecurity(2, 1, 7, true, "holding(2, 1) 0 -> 7", "totalHolding(1) 0 -> 7");
        t.fundCash(0, 8, true, "cash(0) 0 -> 8", "totalCash() 0 -> 8");
        t.settleNow(0, true, "holding(2, 1) 7 -> 0", "holding(0, 1) 0 -> 7", "cash(0) 8 -> 0", "cash(2) 0 -> 8",
                "status(0) 1 -> 2", "settledCycle(0) -1 -> 0");
        t.clearDone(1, "status(0) 2 -> 0", "attempts(0) 0 -> -1", "settledCycle(0) 0 -> -1");
        t.accepted(0, Probe.parties(0, 2), 1, 7, 8);
    }

    private static void theRecordAndTheCountStay() {
        Probe t = new Probe(CHECK, 2, 1, 8, 2);
        t.accepted(0, Probe.parties(0, 1), 0, 1, 1);
        t.cycle(0, "cycleCount() 0 -> 1", "removedAt(0) -1 -> 0", "attempts(0) 0 -> 1");
        t.accepted(1, Probe.parties(0, 1), 0, 1, 1);
        t.refused(Probe.parties(0, 0), 0, 1, 1);
    }
}
