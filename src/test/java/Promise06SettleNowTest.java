public final class Promise06SettleNowTest {
    private static final Section SECTION = new Section("Promise 6: settleNow");

    public static void main(String[] args) {
        ids();
        statuses();
        deliveries();
        payments();
        changes();
        SECTION.finish();
    }

    private static void ids() {
        String words = "0 <= id < Q";
        SECTION.each(words, "id is too small", Range.below(0), () -> coveredSlots(64),
                (t, id) -> t.settleNow(id, false));
        SECTION.test(words, "id is too large", check -> {
            for (int capacity = 8; capacity <= 64; capacity += 14) {
                Probe t = new Probe(check, coveredSlots(capacity));
                for (int id : Range.above(capacity - 1)) {
                    t.settleNow(id, false);
                }
            }
        });
        SECTION.test(words, "the first and the last slot", check -> {
            Probe t = new Probe(check, coveredSlots(64));
            t.settleNow(0, true, "holding(0, 0) 64 -> 63", "holding(1, 0) 0 -> 1", "status(0) 1 -> 2",
                    "settledCycle(0) -1 -> 0");
            t.settleNow(63, true, "holding(0, 0) 63 -> 62", "holding(1, 0) 1 -> 2", "status(63) 1 -> 2",
                    "settledCycle(63) -1 -> 0");
        });
    }

    private static DvpSettler coveredSlots(int capacity) {
        DvpSettler x = Scene.allQueued(capacity, 2);
        x.fundSecurity(0, 0, capacity);
        return x;
    }

    private static void statuses() {
        String words = "slot id is QUEUED";
        refused(words, "an empty slot", Scene.EMPTY);
        refused(words, "a slot settled alone", Scene.SETTLED_ALONE);
        refused(words, "a slot settled in a cycle", Scene.SETTLED_IN_CYCLE);
        refused(words, "a cancelled slot", Scene.CANCELLED);
        refused(words, "a failed slot", Scene.FAILED);
        SECTION.test(words, "slots freed by clearDone", check -> {
            DvpSettler x = rich();
            x.clearDone();
            Probe t = new Probe(check, x);
            for (int id = 0; id < 4; id++) {
                t.settleNow(id, false);
            }
        });
    }

    /** Slots in every status, and all that any of their instructions needs. */
    private static DvpSettler rich() {
        DvpSettler x = Scene.everyStatus();
        for (int p = 0; p < 3; p++) {
            x.fundCash(p, 1000);
            x.fundSecurity(p, 0, 1000);
            x.fundSecurity(p, 1, 1000);
        }
        return x;
    }

    private static void refused(String words, String what, int id) {
        SECTION.test(words, what, check -> new Probe(check, rich()).settleNow(id, false));
    }

    /** Slot 0 waits for 2 to deliver 10 of security 1 to 0, who pays 70. */
    private static Probe sale(Check check, int held, int cash) {
        DvpSettler x = new DvpSettler(3, 2, 8, 3);
        x.fundSecurity(2, 1, held);
        x.fundCash(0, cash);
        x.submit(Probe.parties(2, 0), 1, 10, 70);
        return new Probe(check, x);
    }

    private static void deliveries() {
        String words = "holding(seller, security) >= quantity";
        SECTION.test(words, "one unit too few", check -> sale(check, 9, 1000).settleNow(0, false));
        SECTION.test(words, "just enough", check -> sale(check, 10, 1000).settleNow(0, true, "holding(2, 1) 10 -> 0",
                "holding(0, 1) 0 -> 10", "cash(0) 1000 -> 930", "cash(2) 0 -> 70", "status(0) 1 -> 2",
                "settledCycle(0) -1 -> 0"));
        SECTION.test(words, "one unit to spare", check -> sale(check, 11, 1000).settleNow(0, true,
                "holding(2, 1) 11 -> 1", "holding(0, 1) 0 -> 10", "cash(0) 1000 -> 930", "cash(2) 0 -> 70",
                "status(0) 1 -> 2", "settledCycle(0) -1 -> 0"));
        SECTION.test(words, "neither other securities nor other holders help", check -> {
            DvpSettler x = sale(check, 9, 1000).settler();
            x.fundSecurity(2, 0, 1000);
            x.fundSecurity(0, 1, 1000);
            x.fundSecurity(1, 1, 1000);
            x.fundCash(2, 1000);
            new Probe(check, x).settleNow(0, false);
        });
        SECTION.test(words, "a holding of 0", check -> {
            DvpSettler x = Scene.allQueued(8, 1);
            new Probe(check, x).settleNow(0, false);
        });
    }

    private static void payments() {
        String words = "cash(buyer) >= amount";
        SECTION.test(words, "one too little", check -> sale(check, 1000, 69).settleNow(0, false));
        SECTION.test(words, "just enough", check -> sale(check, 1000, 70).settleNow(0, true,
                "holding(2, 1) 1000 -> 990", "holding(0, 1) 0 -> 10", "cash(0) 70 -> 0", "cash(2) 0 -> 70",
                "status(0) 1 -> 2", "settledCycle(0) -1 -> 0"));
        SECTION.test(words, "one to spare", check -> sale(check, 1000, 71).settleNow(0, true,
                "holding(2, 1) 1000 -> 990", "holding(0, 1) 0 -> 10", "cash(0) 71 -> 1", "cash(2) 0 -> 70",
                "status(0) 1 -> 2", "settledCycle(0) -1 -> 0"));
        SECTION.test(words, "nobody else's cash helps", check -> {
            DvpSettler x = sale(check, 1000, 69).settler();
            x.fundCash(1, 1000);
            x.fundCash(2, 1000);
            new Probe(check, x).settleNow(0, false);
        });
        SECTION.test(words, "an amount of 0 needs no cash", check -> {
            DvpSettler x = Scene.allQueued(8, 1);
            x.fundSecurity(0, 0, 1);
            new Probe(check, x).settleNow(0, true, "holding(0, 0) 1 -> 0", "holding(1, 0) 0 -> 1",
                    "status(0) 1 -> 2", "settledCycle(0) -1 -> 0");
        });
        SECTION.test("If any fails the answer is false and nothing changes", "both legs lack one", check ->
                sale(check, 9, 69).settleNow(0, false));
        SECTION.test("If any fails the answer is false and nothing changes", "it can settle once funds have come",
                check -> {
                    Probe t = sale(check, 9, 70);
                    t.settleNow(0, false);
                    t.fundSecurity(2, 1, 1, true, "holding(2, 1) 9 -> 10", "totalHolding(1) 9 -> 10");
                    t.settleNow(0, true, "holding(2, 1) 10 -> 0", "holding(0, 1) 0 -> 10", "cash(0) 70 -> 0",
                            "cash(2) 0 -> 70", "status(0) 1 -> 2", "settledCycle(0) -1 -> 0");
                });
    }

    private static void changes() {
        SECTION.test("settles one instruction alone", "the same again in another slot waits on", check -> {
            DvpSettler x = sale(check, 100, 1000).settler();
            x.submit(Probe.parties(2, 0), 1, 10, 70);
            new Probe(check, x).settleNow(1, true, "holding(2, 1) 100 -> 90", "holding(0, 1) 0 -> 10",
                    "cash(0) 1000 -> 930", "cash(2) 0 -> 70", "status(1) 1 -> 2", "settledCycle(1) -1 -> 0");
        });
        SECTION.test("holding(seller, security) decreases by quantity; holding(buyer, security) increases by quantity",
                "both hold some before, and no cash is paid", check -> {
                    DvpSettler x = Scene.withTotalHolding(1, 3000000);
                    x.submit(Probe.parties(1, 2), 1, 999999, 0);
                    new Probe(check, x).settleNow(0, true, "holding(1, 1) 1000000 -> 1",
                            "holding(2, 1) 1000000 -> 1999999", "status(0) 1 -> 2", "settledCycle(0) -1 -> 0");
                });
        SECTION.test("cash(buyer) decreases by amount; cash(seller) increases by amount", "both have some before", check -> {
            DvpSettler x = Scene.withTotalCash(3000000);
            x.fundSecurity(1, 1, 1);
            x.submit(Probe.parties(1, 2), 1, 1, 999999);
            new Probe(check, x).settleNow(0, true, "cash(2) 1000000 -> 1", "cash(1) 1000000 -> 1999999",
                    "holding(1, 1) 1 -> 0", "holding(2, 1) 0 -> 1", "status(0) 1 -> 2", "settledCycle(0) -1 -> 0");
        });
        SECTION.test("the status becomes SETTLED and the settled cycle becomes 0", "after cycles have been run", check -> {
            DvpSettler x = rich();
            check.due("cycleCount()", x.cycleCount(), 2);
            check.due("settleNow(4)", x.settleNow(Scene.QUEUED), true);
            check.due("status(4)", x.status(4), DvpSettler.SETTLED);
            check.due("settledCycle(4)", x.settledCycle(4), 0);
        });
        SECTION.test("Attempts and the removal record are unchanged", "after one attempt", check -> {
            DvpSettler x = rich();
            x.settleNow(Scene.QUEUED);
            check.due("attempts(4)", x.attempts(4), 1);
            check.due("the record", Probe.record(x), "[4, 3]");
        });
        SECTION.test("Totals, the cycle count, the sequence counter and all other slots are unchanged",
                "slots in every status", check -> new Probe(check, rich()).settleNow(4, true, "holding(2, 1) 1000 -> 994",
                        "holding(1, 1) 1000 -> 1006", "cash(1) 1050 -> 1043", "cash(2) 1000 -> 1007",
                        "status(4) 1 -> 2", "settledCycle(4) -1 -> 0"));
        SECTION.test("Totals, the cycle count, the sequence counter and all other slots are unchanged",
                "the largest totals", check -> {
                    DvpSettler x = Scene.withTotalHolding(0, 100000000);
                    for (int i = 0; i < 100; i++) {
                        x.fundCash(1, 1000000);
                    }
                    x.submit(Probe.parties(0, 1), 0, 1000000, 1000000);
                    new Probe(check, x).settleNow(0, true, "holding(0, 0) 34000000 -> 33000000",
                            "holding(1, 0) 33000000 -> 34000000", "cash(1) 100000000 -> 99000000",
                            "cash(0) 0 -> 1000000", "status(0) 1 -> 2", "settledCycle(0) -1 -> 0");
                });
        SECTION.test("Totals, the cycle count, the sequence counter and all other slots are unchanged",
                "the next submission is the youngest", check -> {
                    DvpSettler x = Scene.allQueued(8, 2);
                    x.fundSecurity(0, 0, 1);
                    x.settleNow(2);
                    x.clearDone();
                    x.submit(Probe.parties(0, 1), 0, 1, 0);
                    x.cycle();
                    check.due("the record", Probe.record(x), "[2, 7, 6, 5, 4, 3, 1, 0]");
                });
    }
}
