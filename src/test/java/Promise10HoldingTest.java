public final class Promise10HoldingTest {
    private static final Section SECTION = new Section("Promise 10: holding");

    public static void main(String[] args) {
        ranges();
        answers();
        SECTION.test("Changes nothing", "p within and out of range", check ->
                Unchanged.byGetter(check, (x, i) -> x.holding(i, 0)));
        SECTION.test("Changes nothing", "s within and out of range", check ->
                Unchanged.byGetter(check, (x, i) -> x.holding(1, i)));
        SECTION.finish();
    }

    private static void ranges() {
        String words = "answers holding(p, s) if 0 <= p < P and 0 <= s < S, else -1";
        SECTION.eachUnknown(words, "p is too small", Range.below(0), p -> filled(3, 2).holding(p, 1));
        SECTION.eachUnknown(words, "s is too small", Range.below(0), s -> filled(3, 2).holding(1, s));
        for (int participants = 2; participants <= 8; participants++) {
            DvpSettler x = filled(participants, 2);
            SECTION.eachUnknown(words, "p is too large for " + participants, Range.above(participants - 1),
                    p -> x.holding(p, 0));
        }
        for (int securities = 1; securities <= 4; securities++) {
            DvpSettler x = filled(3, securities);
            SECTION.eachUnknown(words, "s is too large for " + securities, Range.above(securities - 1),
                    s -> x.holding(0, s));
        }
        SECTION.test(words, "both are out of range", check -> {
            DvpSettler x = filled(3, 2);
            check.due("holding(-1, -1)", x.holding(-1, -1), -1);
            check.due("holding(3, 2)", x.holding(3, 2), -1);
            check.due("holding(-1, 2)", x.holding(-1, 2), -1);
            check.due("holding(3, -1)", x.holding(3, -1), -1);
        });
    }

    /** Each participant p has 10 * p + s + 1 of each security s. */
    private static DvpSettler filled(int participants, int securities) {
        DvpSettler x = new DvpSettler(participants, securities, 8, 1);
        for (int p = 0; p < participants; p++) {
            for (int s = 0; s < securities; s++) {
                x.fundSecurity(p, s, 10 * p + s + 1);
            }
        }
        return x;
    }

    private static void answers() {
        String words = "answers holding(p, s)";
        SECTION.test(words, "each pair has its own", check -> {
            DvpSettler x = filled(8, 4);
            for (int p = 0; p < 8; p++) {
                for (int s = 0; s < 4; s++) {
                    check.due("holding(" + p + ", " + s + ")", x.holding(p, s), 10 * p + s + 1);
                }
            }
        });
        SECTION.test(words, "nothing held is 0, not -1", check ->
                check.due("holding(2, 1)", new DvpSettler(3, 2, 8, 1).holding(2, 1), 0));
        SECTION.test(words, "the whole total", check -> {
            DvpSettler x = new DvpSettler(2, 4, 8, 1);
            for (int i = 0; i < 100; i++) {
                x.fundSecurity(1, 3, 1000000);
            }
            check.due("holding(1, 3)", x.holding(1, 3), DvpSettler.MAX_TOTAL);
        });
    }
}
