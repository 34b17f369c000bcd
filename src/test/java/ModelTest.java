/**
 * All promises together: long runs of mixed calls, the same every time, against the model.
 * After each call every getter is compared, and the general rules on totals and signs are looked at.
 */
public final class ModelTest {
    private static final Check CHECK = new Check("model");
    private static final int RUNS = 400;
    private static final int CALLS = 250;
    private static final int[] WRONG = {Integer.MIN_VALUE, -1000001, -1, 0, 256, 1000001, Integer.MAX_VALUE};

    private long seed;
    private final int participants;
    private final int securities;
    private final int capacity;
    private final int unit;
    private final DvpSettler x;
    private final Model m;
    private final StringBuilder story = new StringBuilder();

    private ModelTest(int run) {
        seed = 88172645463325252L + run * 7919L;
        participants = 2 + pick(7);
        securities = 1 + pick(4);
        capacity = 8 + pick(run % 4 == 0 ? 57 : 12);
        int maxRecycles = 1 + pick(8);
        // Large units reach the limits, small ones make ties.
        unit = run % 10 == 0 ? 100000 : 1 + pick(5);
        x = new DvpSettler(participants, securities, capacity, maxRecycles);
        m = new Model(participants, securities, capacity, maxRecycles);
        story.append("run " + run + ": new(" + participants + ", " + securities + ", " + capacity + ", "
                + maxRecycles + ")");
    }

    public static void main(String[] args) {
        for (int run = 0; run < RUNS && CHECK.isClean(); run++) {
            ModelTest test = new ModelTest(run);
            for (int call = 0; call < CALLS && CHECK.isClean(); call++) {
                test.oneCall();
                test.sameAnswers();
                test.generalRules();
            }
        }
        CHECK.finish();
    }

    private int pick(int bound) {
        seed ^= seed << 13;
        seed ^= seed >>> 7;
        seed ^= seed << 17;
        return (int) Long.remainderUnsigned(seed, bound);
    }

    /** A value from 0 to bound - 1, now and then one that may be out of range. */
    private int maybeWrong(int bound) {
        return pick(25) == 0 ? WRONG[pick(WRONG.length)] + pick(2) * bound : pick(bound);
    }

    private int maybeWrongAmount() {
        return pick(40) == 0 ? WRONG[pick(WRONG.length)] : (1 + pick(10)) * unit;
    }

    private void oneCall() {
        int kind = pick(100);
        if (kind < 10) {
            fundCash();
        } else if (kind < 22) {
            fundSecurity();
        } else if (kind < 72) {
            submit();
        } else if (kind < 76) {
            int id = maybeWrong(capacity);
            same("cancel(" + id + ")", x.cancel(id), m.cancel(id));
        } else if (kind < 82) {
            int id = maybeWrong(capacity);
            same("settleNow(" + id + ")", x.settleNow(id), m.settleNow(id));
        } else if (kind < 94) {
            same("cycle()", x.cycle(), m.cycle());
        } else {
            same("clearDone()", x.clearDone(), m.clearDone());
        }
    }

    private void fundCash() {
        int p = maybeWrong(participants);
        int amount = maybeWrongAmount();
        same("fundCash(" + p + ", " + amount + ")", x.fundCash(p, amount), m.fundCash(p, amount));
    }

    private void fundSecurity() {
        int p = maybeWrong(participants);
        int s = maybeWrong(securities);
        int quantity = maybeWrongAmount();
        same("fundSecurity(" + p + ", " + s + ", " + quantity + ")",
                x.fundSecurity(p, s, quantity), m.fundSecurity(p, s, quantity));
    }

    private void submit() {
        int parties = pick(25) == 0 ? maybeWrong(256) : pick(participants) * 16 + pick(participants);
        int security = maybeWrong(securities);
        int quantity = maybeWrongAmount();
        int amount = pick(5) == 0 ? 0 : maybeWrongAmount();
        same("submit(" + parties + ", " + security + ", " + quantity + ", " + amount + ")",
                x.submit(parties, security, quantity, amount), m.submit(parties, security, quantity, amount));
    }

    private void same(String call, Object got, Object want) {
        story.append(", " + call);
        if (got.equals(want)) {
            CHECK.due(call, got, want);
        } else {
            CHECK.due(story.toString(), got, want);
        }
    }

    private void sameGetter(String getter, int argument, int got, int want) {
        if (got != want) {
            CHECK.due(story + ", " + getter + " of " + argument, got, want);
        }
    }

    private void sameAnswers() {
        sameGetter("totalCash", 0, x.totalCash(), m.totalCash());
        sameGetter("cycleCount", 0, x.cycleCount(), m.cycleCount());
        for (int p = -1; p <= 8; p++) {
            sameGetter("cash", p, x.cash(p), m.cash(p));
            for (int s = -1; s <= 4; s++) {
                sameGetter("holding " + p, s, x.holding(p, s), m.holding(p, s));
            }
        }
        for (int s = -1; s <= 4; s++) {
            sameGetter("totalHolding", s, x.totalHolding(s), m.totalHolding(s));
        }
        for (int id = -1; id <= 65; id++) {
            sameGetter("status", id, x.status(id), m.status(id));
            sameGetter("attempts", id, x.attempts(id), m.attempts(id));
            sameGetter("settledCycle", id, x.settledCycle(id), m.settledCycle(id));
            sameGetter("removedAt", id, x.removedAt(id), m.removedAt(id));
        }
    }

    private void generalRules() {
        long allCash = 0;
        for (int p = 0; p < participants; p++) {
            allCash += x.cash(p);
            isTrue("cash of " + p + " is not negative", x.cash(p) >= 0);
        }
        isTrue("total cash is the sum", allCash == x.totalCash() && allCash <= DvpSettler.MAX_TOTAL);
        for (int s = 0; s < securities; s++) {
            long all = 0;
            for (int p = 0; p < participants; p++) {
                all += x.holding(p, s);
                isTrue("holding of " + p + " is not negative", x.holding(p, s) >= 0);
            }
            isTrue("total of " + s + " is the sum", all == x.totalHolding(s) && all <= DvpSettler.MAX_TOTAL);
        }
    }

    private void isTrue(String what, boolean holds) {
        if (!holds) {
            CHECK.due(story + ", " + what, false, true);
        }
    }
}
