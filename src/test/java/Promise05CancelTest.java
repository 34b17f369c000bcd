public final class Promise05CancelTest {
    private static final Section SECTION = new Section("Promise 5: cancel");

    public static void main(String[] args) {
        ids();
        statuses();
        changes();
        SECTION.finish();
    }

    private static void ids() {
        String words = "if 0 <= id < Q and slot id is QUEUED, its status becomes CANCELLED";
        SECTION.test(words, "the first and the last slot of the fewest", check -> {
            Probe t = new Probe(check, Scene.allQueued(8, 2));
            t.cancel(0, true, "status(0) 1 -> 3");
            t.cancel(7, true, "status(7) 1 -> 3");
        });
        SECTION.test(words, "the first and the last slot of the most", check -> {
            Probe t = new Probe(check, Scene.allQueued(64, 2));
            t.cancel(0, true, "status(0) 1 -> 3");
            t.cancel(63, true, "status(63) 1 -> 3");
        });
        SECTION.test("its status becomes CANCELLED and the answer is true", "every slot, each once", check -> {
            Probe t = new Probe(check, Scene.allQueued(64, 2));
            for (int id = 63; id >= 0; id--) {
                t.cancel(id, true, "status(" + id + ") 1 -> 3");
                t.cancel(id, false);
            }
        });
        SECTION.each("id out of range", "id is too small", Range.below(0), () -> Scene.allQueued(64, 2),
                (t, id) -> t.cancel(id, false));
        SECTION.test("id out of range", "id is too large", check -> {
            for (int capacity = 8; capacity <= 64; capacity += 14) {
                Probe t = new Probe(check, Scene.allQueued(capacity, 2));
                for (int id : Range.above(capacity - 1)) {
                    t.cancel(id, false);
                }
            }
        });
    }

    private static void statuses() {
        String words = "the slot is EMPTY, SETTLED, CANCELLED or FAILED) the answer is false and nothing changes";
        refused(words, "an empty slot", Scene.EMPTY);
        refused(words, "a slot settled alone", Scene.SETTLED_ALONE);
        refused(words, "a slot settled in a cycle", Scene.SETTLED_IN_CYCLE);
        refused(words, "a cancelled slot", Scene.CANCELLED);
        refused(words, "a failed slot", Scene.FAILED);
        SECTION.test(words, "every slot of a new object", check -> {
            Probe t = new Probe(check, 2, 1, 8, 1);
            for (int id = 0; id < 8; id++) {
                t.cancel(id, false);
            }
        });
        SECTION.test(words, "a slot freed by clearDone", check -> {
            DvpSettler x = Scene.everyStatus();
            x.clearDone();
            new Probe(check, x).cancel(Scene.CANCELLED, false);
        });
    }

    private static void refused(String words, String what, int id) {
        SECTION.test(words, what, check -> new Probe(check, Scene.everyStatus()).cancel(id, false));
    }

    private static void changes() {
        String words = "A successful cancel changes no balance, keeps the slot's attempts, and leaves other slots";
        SECTION.test(words, "after one attempt, among slots in every status", check -> {
            Probe t = new Probe(check, Scene.everyStatus());
            t.cancel(Scene.QUEUED, true, "status(4) 1 -> 3");
            check.due("attempts(4)", t.settler().attempts(4), 1);
            check.due("the record", Probe.record(t.settler()), "[4, 3]");
        });
        SECTION.test(words, "before any attempt", check -> {
            Probe t = new Probe(check, Scene.allQueued(8, 2));
            t.cancel(3, true, "status(3) 1 -> 3");
            check.due("attempts(3)", t.settler().attempts(3), 0);
        });
        SECTION.test(words, "what was cancelled moves nothing later", check -> {
            DvpSettler x = Scene.allQueued(8, 2);
            x.fundSecurity(0, 0, 8);
            Probe t = new Probe(check, x);
            t.cancel(5, true, "status(5) 1 -> 3");
            t.settleNow(5, false);
            check.due("cycle()", x.cycle(), 7);
            check.due("holding(1, 0)", x.holding(1, 0), 7);
        });
        SECTION.test("the cycle count, the sequence counter and the removal record unchanged",
                "the next submission is the youngest", check -> {
                    DvpSettler x = Scene.allQueued(8, 2);
                    x.cancel(7);
                    x.cancel(1);
                    x.clearDone();
                    x.submit(Probe.parties(0, 1), 0, 1, 0);
                    x.cycle();
                    check.due("the record", Probe.record(x), "[1, 6, 5, 4, 3, 2, 0]");
                });
    }
}
