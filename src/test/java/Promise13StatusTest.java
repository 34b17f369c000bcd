public final class Promise13StatusTest {
    private static final Section SECTION = new Section("Promise 13: status");

    public static void main(String[] args) {
        ranges();
        statuses();
        SECTION.test("Changes nothing", "within and out of range", check ->
                Unchanged.byGetter(check, (x, i) -> x.status(i)));
        SECTION.finish();
    }

    private static void ranges() {
        String words = "if 0 <= id < Q, else -1";
        SECTION.eachUnknown(words, "id is too small", Range.below(0), Scene.allQueued(64, 1)::status);
        for (int capacity = 8; capacity <= 64; capacity += 14) {
            SECTION.eachUnknown(words, "id is too large for " + capacity, Range.above(capacity - 1),
                    Scene.allQueued(capacity, 1)::status);
        }
        SECTION.test(words, "the first and the last slot", check -> {
            for (int capacity = 8; capacity <= 64; capacity++) {
                DvpSettler x = Scene.allQueued(capacity, 1);
                check.due("status(0) of " + capacity, x.status(0), DvpSettler.QUEUED);
                check.due("status of the last of " + capacity, x.status(capacity - 1), DvpSettler.QUEUED);
            }
        });
    }

    private static void statuses() {
        answers("an empty slot", Scene.EMPTY, 0);
        answers("a queued slot", Scene.QUEUED, 1);
        answers("a slot settled alone", Scene.SETTLED_ALONE, 2);
        answers("a slot settled in a cycle", Scene.SETTLED_IN_CYCLE, 2);
        answers("a cancelled slot", Scene.CANCELLED, 3);
        answers("a failed slot", Scene.FAILED, 4);
    }

    private static void answers(String what, int id, int want) {
        SECTION.test("one of EMPTY .. FAILED, that is 0..4", what, check ->
                check.due("status(" + id + ")", Scene.everyStatus().status(id), want));
    }
}
