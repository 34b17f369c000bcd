/** Promises 2 and 3, with the getters of promises 9 to 12. */
public final class FundingTest {
    private static final Check CHECK = new Check("funding");
    private static final int MIN = Integer.MIN_VALUE;
    private static final int MAX = Integer.MAX_VALUE;

    public static void main(String[] args) {
        cashIsAdded();
        wrongCashIsRefused();
        cashStopsAtTheLargestTotal();
        securitiesAreAdded();
        wrongSecuritiesAreRefused();
        securitiesStopAtTheLargestTotal();
        totalsOfSecuritiesAndCashAreApart();
        fundingLeavesSlotsAndRecordAlone();
        CHECK.finish();
    }

    private static void cashIsAdded() {
        Probe t = new Probe(CHECK, 3, 2, 8, 2);
        t.fundCash(0, 1, true, "cash(0) 0 -> 1", "totalCash() 0 -> 1");
        t.fundCash(2, 1000000, true, "cash(2) 0 -> 1000000", "totalCash() 1 -> 1000001");
        t.fundCash(0, 41, true, "cash(0) 1 -> 42", "totalCash() 1000001 -> 1000042");
    }

    private static void wrongCashIsRefused() {
        Probe t = new Probe(CHECK, 3, 2, 8, 2);
        for (int p : new int[] {-1, 3, 4, 8, MIN, MAX}) {
            t.fundCash(p, 1, false);
        }
        for (int amount : new int[] {0, -1, 1000001, MIN, MAX}) {
            t.fundCash(0, amount, false);
        }
    }

    private static void cashStopsAtTheLargestTotal() {
        DvpSettler x = new DvpSettler(4, 1, 8, 2);
        for (int i = 0; i < 99; i++) {
            x.fundCash(i % 3, 1000000);
        }
        x.fundCash(3, 999998);
        CHECK.due("total cash", x.totalCash(), 99999998);
        CHECK.due("3 above the total", x.fundCash(0, 3), false);
        CHECK.due("a million above the total", x.fundCash(3, 1000000), false);
        CHECK.due("2 up to the total", x.fundCash(1, 2), true);
        CHECK.due("the largest total", x.totalCash(), DvpSettler.MAX_TOTAL);
        CHECK.due("1 above the total", x.fundCash(3, 1), false);
        CHECK.due("total after a refusal", x.totalCash(), DvpSettler.MAX_TOTAL);
        CHECK.due("cash after refusals", x.cash(3), 999998);
    }

    private static void securitiesAreAdded() {
        Probe t = new Probe(CHECK, 8, 4, 8, 2);
        t.fundSecurity(0, 0, 1, true, "holding(0, 0) 0 -> 1", "totalHolding(0) 0 -> 1");
        t.fundSecurity(7, 3, 1000000, true, "holding(7, 3) 0 -> 1000000", "totalHolding(3) 0 -> 1000000");
        t.fundSecurity(6, 3, 5, true, "holding(6, 3) 0 -> 5", "totalHolding(3) 1000000 -> 1000005");
        t.fundSecurity(0, 1, 7, true, "holding(0, 1) 0 -> 7", "totalHolding(1) 0 -> 7");
        t.fundSecurity(1, 0, 8, true, "holding(1, 0) 0 -> 8", "totalHolding(0) 1 -> 9");
        t.fundSecurity(0, 0, 9, true, "holding(0, 0) 1 -> 10", "totalHolding(0) 9 -> 18");
    }

    private static void wrongSecuritiesAreRefused() {
        Probe t = new Probe(CHECK, 3, 2, 8, 2);
        for (int p : new int[] {-1, 3, 4, 8, MIN, MAX}) {
            t.fundSecurity(p, 0, 1, false);
        }
        for (int s : new int[] {-1, 2, 3, 4, MIN, MAX}) {
            t.fundSecurity(1, s, 1, false);
        }
        for (int quantity : new int[] {0, -1, 1000001, MIN, MAX}) {
            t.fundSecurity(0, 0, quantity, false);
        }
    }

    private static void securitiesStopAtTheLargestTotal() {
        DvpSettler x = new DvpSettler(4, 2, 8, 2);
        for (int i = 0; i < 99; i++) {
            x.fundSecurity(i % 3, 1, 1000000);
        }
        x.fundSecurity(3, 1, 999998);
        CHECK.due("total of security 1", x.totalHolding(1), 99999998);
        CHECK.due("3 above the total", x.fundSecurity(0, 1, 3), false);
        CHECK.due("a million above the total", x.fundSecurity(3, 1, 1000000), false);
        CHECK.due("2 up to the total", x.fundSecurity(1, 1, 2), true);
        CHECK.due("the largest total", x.totalHolding(1), DvpSettler.MAX_TOTAL);
        CHECK.due("1 above the total", x.fundSecurity(3, 1, 1), false);
        CHECK.due("total after a refusal", x.totalHolding(1), DvpSettler.MAX_TOTAL);
        CHECK.due("holding after refusals", x.holding(3, 1), 999998);
    }

    private static void totalsOfSecuritiesAndCashAreApart() {
        DvpSettler x = new DvpSettler(2, 2, 8, 2);
        for (int i = 0; i < 100; i++) {
            CHECK.due("filling security 0", x.fundSecurity(0, 0, 1000000), true);
        }
        CHECK.due("security 0 is full", x.fundSecurity(1, 0, 1), false);
        CHECK.due("security 1 is not", x.fundSecurity(0, 1, 1000000), true);
        CHECK.due("nor is cash", x.fundCash(0, 1000000), true);
    }

    private static void fundingLeavesSlotsAndRecordAlone() {
        Probe t = new Probe(CHECK, 2, 1, 8, 3);
        t.accepted(0, Probe.parties(0, 1), 0, 1, 1);
        t.cycle(0, "cycleCount() 0 -> 1", "removedAt(0) -1 -> 0", "attempts(0) 0 -> 1");
        t.fundCash(1, 1, true, "cash(1) 0 -> 1", "totalCash() 0 -> 1");
        t.fundSecurity(0, 0, 1, true, "holding(0, 0) 0 -> 1", "totalHolding(0) 0 -> 1");
    }
}
