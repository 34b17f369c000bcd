/** Objects that the tests of several promises begin with. */
final class Scene {
    static final int SETTLED_ALONE = 0;
    static final int SETTLED_IN_CYCLE = 1;
    static final int CANCELLED = 2;
    static final int FAILED = 3;
    static final int QUEUED = 4;
    static final int EMPTY = 5;

    private static final int STEP = 1000000;

    private Scene() { }

    static DvpSettler fresh() {
        return new DvpSettler(3, 2, 8, 2);
    }

    /**
     * Three participants, two securities, eight slots, two recycles; a slot in each status, by the
     * names above, and every slot from EMPTY on is free. Participants 0 and 1 have 50 in cash each,
     * and 3 and 7 of security 0. Two cycles were run, and the last removed slot 4, then slot 3. Slot
     * 4 waits with one attempt, for 2 to deliver 6 of security 1 to 1, who pays 7.
     */
    static DvpSettler everyStatus() {
        DvpSettler x = fresh();
        x.fundSecurity(0, 0, 10);
        x.fundCash(1, 100);
        x.submit(Probe.parties(0, 1), 0, 5, 40);
        x.settleNow(SETTLED_ALONE);
        x.submit(Probe.parties(0, 1), 0, 2, 10);
        x.submit(Probe.parties(2, 0), 1, 3, 0);
        x.submit(Probe.parties(2, 0), 1, 4, 0);
        x.cycle();
        x.cancel(CANCELLED);
        x.submit(Probe.parties(2, 1), 1, 6, 7);
        x.cycle();
        return x;
    }

    /** Two participants without any balance, and every slot waits for 0 to deliver 1 to 1 for nothing. */
    static DvpSettler allQueued(int capacity, int maxRecycles) {
        DvpSettler x = new DvpSettler(2, 1, capacity, maxRecycles);
        for (int id = 0; id < capacity; id++) {
            x.submit(Probe.parties(0, 1), 0, 1, 0);
        }
        return x;
    }

    /** Cash spread over all three participants, as much in all as is told. */
    static DvpSettler withTotalCash(int total) {
        DvpSettler x = fresh();
        for (int i = 0; i * STEP < total; i++) {
            x.fundCash(i % 3, Math.min(STEP, total - i * STEP));
        }
        return x;
    }

    /** One security spread over all three participants, as much in all as is told. */
    static DvpSettler withTotalHolding(int s, int total) {
        DvpSettler x = fresh();
        for (int i = 0; i * STEP < total; i++) {
            x.fundSecurity(i % 3, s, Math.min(STEP, total - i * STEP));
        }
        return x;
    }
}
