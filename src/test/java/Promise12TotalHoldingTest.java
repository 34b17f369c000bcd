public final class Promise12TotalHoldingTest {
    private static final Section SECTION = new Section("Promise 12: totalHolding");

    public static void main(String[] args) {
        String words = "answers the sum of holding(p, s) over all participants if 0 <= s < S, else -1";
        SECTION.eachUnknown(words, "s is too small", Range.below(0), Scene.withTotalHolding(0, 1000)::totalHolding);
        for (int securities = 1; securities <= 4; securities++) {
            SECTION.eachUnknown(words, "s is too large for " + securities, Range.above(securities - 1),
                    new DvpSettler(8, securities, 8, 1)::totalHolding);
        }
        SECTION.test(words, "the first and the last participant count, in each security", check -> {
            for (int s = 0; s < 4; s++) {
                DvpSettler x = new DvpSettler(2 + s, 4, 8, 1);
                x.fundSecurity(0, s, 3);
                x.fundSecurity(1 + s, s, 4);
                for (int other = 0; other < 4; other++) {
                    check.due("totalHolding(" + other + ")", x.totalHolding(other), other == s ? 7 : 0);
                }
            }
        });
        SECTION.test(words, "after settlements", check -> {
            DvpSettler x = Scene.everyStatus();
            check.due("totalHolding(0)", x.totalHolding(0), 10);
            check.due("the sum", x.holding(0, 0) + x.holding(1, 0) + x.holding(2, 0), 10);
        });
        SECTION.test("A valid answer is between 0 and MAX_TOTAL", "0 on a new object", check ->
                check.due("totalHolding(0)", new DvpSettler(2, 1, 8, 1).totalHolding(0), 0));
        SECTION.test("A valid answer is between 0 and MAX_TOTAL", "the most that is accepted", check -> {
            DvpSettler x = Scene.withTotalHolding(1, 100000000);
            x.fundSecurity(0, 1, 1);
            x.fundSecurity(1, 1, 1000000);
            check.due("totalHolding(1)", x.totalHolding(1), DvpSettler.MAX_TOTAL);
        });
        SECTION.test("Changes nothing", "within and out of range", check ->
                Unchanged.byGetter(check, (x, i) -> x.totalHolding(i)));
        SECTION.finish();
    }
}
