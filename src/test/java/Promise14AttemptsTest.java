public final class Promise14AttemptsTest {
    private static final Section SECTION = new Section("Promise 14: attempts");

    public static void main(String[] args) {
        ranges();
        growth();
        kept();
        SECTION.test("Changes nothing", "within and out of range", check ->
                Unchanged.byGetter(check, (x, i) -> x.attempts(i)));
        SECTION.finish();
    }

    private static void ranges() {
        String words = "if 0 <= id < Q and the slot is not EMPTY; else -1";
        SECTION.eachUnknown(words, "id is too small", Range.below(0), Scene.allQueued(64, 1)::attempts);
        for (int capacity = 8; capacity <= 64; capacity += 14) {
            SECTION.eachUnknown(words, "id is too large for " + capacity, Range.above(capacity - 1),
                    Scene.allQueued(capacity, 1)::attempts);
        }
        SECTION.test(words, "the first and the last slot", check -> {
            DvpSettler x = Scene.allQueued(64, 2);
            x.cycle();
            check.due("attempts(0)", x.attempts(0), 1);
            check.due("attempts(63)", x.attempts(63), 1);
        });
        SECTION.test(words, "a slot that was never used", check ->
                check.due("attempts(5)", Scene.everyStatus().attempts(Scene.EMPTY), -1));
        SECTION.test(words, "every slot of a new object", check -> {
            DvpSettler x = new DvpSettler(2, 1, 64, 8);
            for (int id = 0; id < 64; id++) {
                check.due("attempts(" + id + ")", x.attempts(id), -1);
            }
        });
    }

    private static void growth() {
        SECTION.test("It is 0 right after submit", "in a slot never used", check -> {
            DvpSettler x = Scene.everyStatus();
            check.due("attempts(5)", x.attempts(x.submit(Probe.parties(0, 1), 0, 1, 0)), 0);
        });
        SECTION.test("It is 0 right after submit", "in a slot whose instruction failed", check -> {
            DvpSettler x = Scene.allQueued(8, 8);
            for (int i = 0; i < 8; i++) {
                x.cycle();
            }
            x.clearDone();
            check.due("attempts(0)", x.attempts(x.submit(Probe.parties(0, 1), 0, 1, 0)), 0);
        });
        SECTION.test("the number of cycles that removed the instruction in slot id", "up to R and no further", check -> {
            DvpSettler x = Scene.allQueued(8, 8);
            for (int c = 1; c <= 10; c++) {
                x.cycle();
                check.due("attempts(7) after cycle " + c, x.attempts(7), Math.min(c, 8));
            }
        });
        String words = "grows only in step 5 of a cycle";
        SECTION.test(words, "not when settleNow is refused", check -> {
            DvpSettler x = Scene.everyStatus();
            check.due("settleNow(4)", x.settleNow(Scene.QUEUED), false);
            check.due("attempts(4)", x.attempts(Scene.QUEUED), 1);
        });
        SECTION.test(words, "not in a cycle that settles it", check -> {
            DvpSettler x = Scene.everyStatus();
            x.fundSecurity(2, 1, 6);
            check.due("cycle()", x.cycle(), 1);
            check.due("attempts(4)", x.attempts(Scene.QUEUED), 1);
        });
        SECTION.test(words, "not in a cycle that it takes no part in", check -> {
            DvpSettler x = Scene.everyStatus();
            x.cycle();
            check.due("attempts(0)", x.attempts(Scene.SETTLED_ALONE), 0);
            check.due("attempts(1)", x.attempts(Scene.SETTLED_IN_CYCLE), 0);
            check.due("attempts(2)", x.attempts(Scene.CANCELLED), 1);
            check.due("attempts(3)", x.attempts(Scene.FAILED), 2);
        });
    }

    private static void kept() {
        String words = "is kept for CANCELLED, SETTLED and FAILED slots until clearDone frees them";
        SECTION.test(words, "a cancelled slot", check -> keptUntilFreed(check, cancelled(), DvpSettler.CANCELLED, 1));
        SECTION.test(words, "a slot settled alone", check -> {
            DvpSettler x = Scene.everyStatus();
            x.fundSecurity(2, 1, 6);
            x.settleNow(Scene.QUEUED);
            keptUntilFreed(check, x, DvpSettler.SETTLED, 1);
        });
        SECTION.test(words, "a slot settled in a cycle", check -> {
            DvpSettler x = Scene.everyStatus();
            x.fundSecurity(2, 1, 6);
            x.cycle();
            keptUntilFreed(check, x, DvpSettler.SETTLED, 1);
        });
        SECTION.test(words, "a failed slot", check -> {
            DvpSettler x = Scene.everyStatus();
            x.cycle();
            keptUntilFreed(check, x, DvpSettler.FAILED, 2);
        });
    }

    private static DvpSettler cancelled() {
        DvpSettler x = Scene.everyStatus();
        x.cancel(Scene.QUEUED);
        return x;
    }

    /** Of slot 4, which had one attempt before it came into the status told. */
    private static void keptUntilFreed(Check check, DvpSettler x, int status, int attempts) {
        check.due("status(4)", x.status(4), status);
        check.due("attempts(4)", x.attempts(4), attempts);
        x.cycle();
        x.submit(Probe.parties(0, 1), 0, 1, 0);
        check.due("attempts(4) later", x.attempts(4), attempts);
        x.clearDone();
        check.due("attempts(4) after clearDone()", x.attempts(4), -1);
    }
}
