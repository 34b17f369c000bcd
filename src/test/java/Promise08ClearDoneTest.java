public final class Promise08ClearDoneTest {
    private static final Section SECTION = new Section("Promise 8: clearDone");

    public static void main(String[] args) {
        doneSlots();
        otherSlots();
        answers();
        changes();
        SECTION.finish();
    }

    private static void doneSlots() {
        String words = "every slot with status SETTLED, CANCELLED or FAILED becomes EMPTY";
        SECTION.test(words, "a slot settled alone", check -> {
            DvpSettler x = Scene.allQueued(8, 1);
            x.fundSecurity(0, 0, 1);
            x.settleNow(3);
            new Probe(check, x).clearDone(1, "status(3) 2 -> 0", "attempts(3) 0 -> -1", "settledCycle(3) 0 -> -1");
        });
        SECTION.test(words, "a slot settled in a cycle", check -> {
            DvpSettler x = new DvpSettler(2, 1, 8, 1);
            x.fundSecurity(0, 0, 1);
            x.submit(Probe.parties(0, 1), 0, 1, 0);
            x.cycle();
            new Probe(check, x).clearDone(1, "status(0) 2 -> 0", "attempts(0) 0 -> -1", "settledCycle(0) 1 -> -1");
        });
        SECTION.test(words, "a cancelled slot", check -> {
            DvpSettler x = Scene.allQueued(8, 1);
            x.cancel(3);
            new Probe(check, x).clearDone(1, "status(3) 3 -> 0", "attempts(3) 0 -> -1");
        });
        SECTION.test(words, "a failed slot", check -> {
            DvpSettler x = new DvpSettler(2, 1, 8, 1);
            x.submit(Probe.parties(0, 1), 0, 1, 0);
            x.cycle();
            new Probe(check, x).clearDone(1, "status(0) 4 -> 0", "attempts(0) 1 -> -1");
        });
        SECTION.test("its data is forgotten (afterwards status answers EMPTY and attempts and settledCycle answer -1 for it)",
                "slots in every status", check ->
                new Probe(check, Scene.everyStatus()).clearDone(4, "status(0) 2 -> 0", "attempts(0) 0 -> -1",
                        "settledCycle(0) 0 -> -1", "status(1) 2 -> 0", "attempts(1) 0 -> -1",
                        "settledCycle(1) 1 -> -1", "status(2) 3 -> 0", "attempts(2) 1 -> -1", "status(3) 4 -> 0",
                        "attempts(3) 2 -> -1"));
        SECTION.test("its data is forgotten", "no call finds the instruction again", check -> {
            DvpSettler x = Scene.everyStatus();
            x.cancel(Scene.QUEUED);
            x.clearDone();
            x.fundSecurity(2, 1, 1000);
            Probe t = new Probe(check, x);
            for (int id = 0; id < 8; id++) {
                t.cancel(id, false);
                t.settleNow(id, false);
            }
            t.cycle(0, "cycleCount() 2 -> 3", "removedAt(0) 4 -> -1", "removedAt(1) 3 -> -1");
        });
    }

    private static void otherSlots() {
        String words = "QUEUED and EMPTY slots are unchanged";
        SECTION.test(words, "queued slots without an attempt", check ->
                new Probe(check, Scene.allQueued(64, 2)).clearDone(0));
        SECTION.test(words, "a queued slot keeps its attempts and can settle", check -> {
            DvpSettler x = Scene.everyStatus();
            x.clearDone();
            check.due("status(4)", x.status(4), DvpSettler.QUEUED);
            check.due("attempts(4)", x.attempts(4), 1);
            x.fundSecurity(2, 1, 6);
            check.due("settleNow(4)", x.settleNow(4), true);
            check.due("holding(1, 1)", x.holding(1, 1), 6);
            check.due("cash(2)", x.cash(2), 7);
        });
        SECTION.test(words, "empty slots", check -> new Probe(check, 2, 1, 64, 2).clearDone(0));
    }

    private static void answers() {
        String words = "The answer is the number of slots so freed, possibly 0";
        SECTION.test(words, "0 on a new object", check -> new Probe(check, 2, 1, 8, 1).clearDone(0));
        SECTION.test(words, "0 the second time", check -> {
            DvpSettler x = Scene.everyStatus();
            check.due("clearDone()", x.clearDone(), 4);
            new Probe(check, x).clearDone(0);
        });
        SECTION.test(words, "every slot of a full object", check -> {
            for (int capacity = 8; capacity <= 64; capacity += 14) {
                DvpSettler x = Scene.allQueued(capacity, 1);
                x.cycle();
                check.due("clearDone()", x.clearDone(), capacity);
                check.due("status of the first", x.status(0), DvpSettler.EMPTY);
                check.due("status of the last", x.status(capacity - 1), DvpSettler.EMPTY);
                check.due("the slot used next", x.submit(Probe.parties(0, 1), 0, 1, 0), 0);
            }
        });
        SECTION.test(words, "the last slot alone", check -> {
            DvpSettler x = Scene.allQueued(64, 1);
            x.cancel(63);
            new Probe(check, x).clearDone(1, "status(63) 3 -> 0", "attempts(63) 0 -> -1");
        });
    }

    private static void changes() {
        String words = "Balances, totals, the cycle count, the sequence counter and the removal record are unchanged";
        SECTION.test(words, "balances and the cycle count", check -> {
            DvpSettler x = Scene.everyStatus();
            x.clearDone();
            check.due("cash", x.cash(0) + " " + x.cash(1) + " " + x.cash(2), "50 50 0");
            check.due("holdings", x.holding(0, 0) + " " + x.holding(1, 0), "3 7");
            check.due("totals", x.totalCash() + " " + x.totalHolding(0), "100 10");
            check.due("cycleCount()", x.cycleCount(), 2);
        });
        SECTION.test(words, "the removal record, though it names a freed slot", check -> {
            DvpSettler x = Scene.everyStatus();
            x.clearDone();
            check.due("the record", Probe.record(x), "[4, 3]");
        });
        SECTION.test(words, "the sequence counter, though the oldest are gone", check -> {
            DvpSettler x = Scene.allQueued(8, 2);
            x.cancel(0);
            x.cancel(1);
            x.clearDone();
            x.submit(Probe.parties(0, 1), 0, 1, 0);
            x.submit(Probe.parties(0, 1), 0, 1, 0);
            x.cycle();
            check.due("the record", Probe.record(x), "[1, 0, 7, 6, 5, 4, 3, 2]");
        });
        SECTION.test(words, "the sequence counter, though the youngest are gone", check -> {
            DvpSettler x = Scene.allQueued(8, 2);
            x.cancel(0);
            x.cancel(6);
            x.cancel(7);
            x.clearDone();
            for (int i = 0; i < 3; i++) {
                x.submit(Probe.parties(0, 1), 0, 1, 0);
            }
            x.cycle();
            check.due("the record", Probe.record(x), "[7, 6, 0, 5, 4, 3, 2, 1]");
        });
    }
}
