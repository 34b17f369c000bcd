public final class Promise09CashTest {
    private static final Section SECTION = new Section("Promise 9: cash");

    public static void main(String[] args) {
        String words = "answers cash(p) if 0 <= p < P, else -1";
        SECTION.eachUnknown(words, "p is too small", Range.below(0), Scene.withTotalCash(1000)::cash);
        for (int participants = 2; participants <= 8; participants++) {
            SECTION.eachUnknown(words, "p is too large for " + participants, Range.above(participants - 1),
                    new DvpSettler(participants, 4, 8, 1)::cash);
        }
        SECTION.test(words, "each participant has its own", check -> {
            DvpSettler x = new DvpSettler(8, 1, 8, 1);
            for (int p = 0; p < 8; p++) {
                x.fundCash(p, 10 + p);
            }
            for (int p = 0; p < 8; p++) {
                check.due("cash(" + p + ")", x.cash(p), 10 + p);
            }
        });
        SECTION.test(words, "no cash is 0, not -1", check -> {
            DvpSettler x = Scene.everyStatus();
            check.due("cash(2)", x.cash(2), 0);
        });
        SECTION.test(words, "the whole total", check -> {
            DvpSettler x = new DvpSettler(2, 1, 8, 1);
            for (int i = 0; i < 100; i++) {
                x.fundCash(1, 1000000);
            }
            check.due("cash(1)", x.cash(1), DvpSettler.MAX_TOTAL);
        });
        SECTION.test("Changes nothing", "within and out of range", check ->
                Unchanged.byGetter(check, (x, i) -> x.cash(i)));
        SECTION.finish();
    }
}
