public final class Promise11TotalCashTest {
    private static final Section SECTION = new Section("Promise 11: totalCash");

    public static void main(String[] args) {
        SECTION.test("answers the sum of cash(p) over all participants", "the first and the last count", check -> {
            for (int participants = 2; participants <= 8; participants++) {
                DvpSettler x = new DvpSettler(participants, 1, 8, 1);
                x.fundCash(0, 3);
                x.fundCash(participants - 1, 4);
                check.due("totalCash() of " + participants, x.totalCash(), 7);
            }
        });
        SECTION.test("answers the sum of cash(p) over all participants", "after settlements", check -> {
            DvpSettler x = Scene.everyStatus();
            check.due("totalCash()", x.totalCash(), 100);
            check.due("the sum", x.cash(0) + x.cash(1) + x.cash(2), 100);
        });
        SECTION.test("it is always between 0 and MAX_TOTAL", "0 on a new object", check ->
                check.due("totalCash()", new DvpSettler(2, 1, 8, 1).totalCash(), 0));
        SECTION.test("it is always between 0 and MAX_TOTAL", "the most that is accepted", check -> {
            DvpSettler x = Scene.withTotalCash(100000000);
            x.fundCash(0, 1);
            x.fundCash(1, 1000000);
            check.due("totalCash()", x.totalCash(), DvpSettler.MAX_TOTAL);
        });
        SECTION.test("Changes nothing", "slots in every status", check ->
                Unchanged.byGetter(check, (x, i) -> x.totalCash()));
        SECTION.finish();
    }
}
