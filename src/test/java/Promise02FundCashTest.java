public final class Promise02FundCashTest {
    private static final Section SECTION = new Section("Promise 2: fundCash");

    public static void main(String[] args) {
        participants();
        amounts();
        totals();
        changes();
        SECTION.finish();
    }

    private static void participants() {
        String words = "0 <= p < P";
        SECTION.each(words, "p is too small", Range.below(0), Scene::fresh, (t, p) -> t.fundCash(p, 1, false));
        SECTION.each(words, "p is too large", Range.above(2), Scene::fresh, (t, p) -> t.fundCash(p, 1, false));
        SECTION.test(words, "the first and the last of each P, and the one behind", check -> {
            for (int participants = 2; participants <= 8; participants++) {
                Probe t = new Probe(check, participants, 2, 8, 2);
                int last = participants - 1;
                t.fundCash(0, 5, true, "cash(0) 0 -> 5", "totalCash() 0 -> 5");
                t.fundCash(last, 6, true, "cash(" + last + ") 0 -> 6", "totalCash() 5 -> 11");
                t.fundCash(participants, 7, false);
            }
        });
    }

    private static void amounts() {
        String words = "1 <= amount <= MAX_AMOUNT";
        SECTION.each(words, "0 and less is too small", Range.below(1), () -> Scene.withTotalCash(1000),
                (t, amount) -> t.fundCash(0, amount, false));
        SECTION.each(words, "more than a million is too large", Range.above(1000000), Scene::fresh,
                (t, amount) -> t.fundCash(0, amount, false));
        SECTION.test(words, "1 is the least", check ->
                new Probe(check, 3, 2, 8, 2).fundCash(0, 1, true, "cash(0) 0 -> 1", "totalCash() 0 -> 1"));
        SECTION.test(words, "a million is the greatest", check ->
                new Probe(check, 3, 2, 8, 2).fundCash(0, 1000000, true, "cash(0) 0 -> 1000000",
                        "totalCash() 0 -> 1000000"));
    }

    private static void totals() {
        String words = "totalCash() + amount <= MAX_TOTAL";
        SECTION.test(words, "up to the largest total", check ->
                new Probe(check, Scene.withTotalCash(99999998)).fundCash(2, 2, true,
                        "cash(2) 33000000 -> 33000002", "totalCash() 99999998 -> 100000000"));
        SECTION.test(words, "a million up to the largest total", check ->
                new Probe(check, Scene.withTotalCash(99000000)).fundCash(2, 1000000, true,
                        "cash(2) 33000000 -> 34000000", "totalCash() 99000000 -> 100000000"));
        SECTION.test(words, "1 above the largest total", check ->
                new Probe(check, Scene.withTotalCash(99999998)).fundCash(2, 3, false));
        SECTION.test(words, "a million above the largest total", check ->
                new Probe(check, Scene.withTotalCash(99000001)).fundCash(1, 1000000, false));
        SECTION.test(words, "nothing fits a full total", check -> {
            Probe t = new Probe(check, Scene.withTotalCash(100000000));
            t.fundCash(0, 1, false);
            t.fundCash(1, 1, false);
            t.fundCash(2, 1000000, false);
        });
        SECTION.test(words, "one participant alone may have the whole total", check -> {
            DvpSettler x = new DvpSettler(2, 1, 8, 1);
            for (int i = 0; i < 100; i++) {
                check.due("fundCash(1, 1000000)", x.fundCash(1, 1000000), true);
            }
            check.due("cash(1)", x.cash(1), 100000000);
            check.due("fundCash(0, 1)", x.fundCash(0, 1), false);
        });
        SECTION.test(words, "no security counts", check -> {
            DvpSettler x = Scene.withTotalHolding(1, 100000000);
            check.due("fundCash(0, 1000000)", x.fundCash(0, 1000000), true);
        });
        SECTION.test(words, "cash that has moved counts still", check -> {
            DvpSettler x = Scene.withTotalCash(100000000);
            x.fundSecurity(0, 0, 1);
            x.submit(Probe.parties(0, 1), 0, 1, 1000000);
            check.due("settleNow(0)", x.settleNow(0), true);
            new Probe(check, x).fundCash(1, 1, false);
        });
    }

    private static void changes() {
        SECTION.test("adds amount to cash(p)", "a second time too", check -> {
            Probe t = new Probe(check, 3, 2, 8, 2);
            t.fundCash(1, 40, true, "cash(1) 0 -> 40", "totalCash() 0 -> 40");
            t.fundCash(2, 7, true, "cash(2) 0 -> 7", "totalCash() 40 -> 47");
            t.fundCash(1, 2, true, "cash(1) 40 -> 42", "totalCash() 47 -> 49");
        });
        SECTION.test("cash(p) increases by amount, totalCash() increases by amount, and the answer is true",
                "from what was there", check -> new Probe(check, Scene.withTotalCash(2000001)).fundCash(1, 999999, true,
                        "cash(1) 1000000 -> 1999999", "totalCash() 2000001 -> 3000000"));
        SECTION.test("If any fails the answer is false and nothing changes", "when all of them fail", check ->
                new Probe(check, Scene.withTotalCash(100000000)).fundCash(-1, 1000001, false));
        SECTION.test("Nothing else changes: no holding, no slot, no counter, no removal record", "slots in every status",
                check -> new Probe(check, Scene.everyStatus()).fundCash(2, 8, true, "cash(2) 0 -> 8",
                        "totalCash() 100 -> 108"));
    }
}
