public final class Promise03FundSecurityTest {
    private static final Section SECTION = new Section("Promise 3: fundSecurity");

    public static void main(String[] args) {
        participants();
        securities();
        quantities();
        totals();
        changes();
        SECTION.finish();
    }

    private static void participants() {
        String words = "0 <= p < P";
        SECTION.each(words, "p is too small", Range.below(0), Scene::fresh, (t, p) -> t.fundSecurity(p, 1, 1, false));
        SECTION.each(words, "p is too large", Range.above(2), Scene::fresh, (t, p) -> t.fundSecurity(p, 0, 1, false));
        SECTION.test(words, "the first and the last of each P, and the one behind", check -> {
            for (int participants = 2; participants <= 8; participants++) {
                Probe t = new Probe(check, participants, 1, 8, 2);
                int last = participants - 1;
                t.fundSecurity(0, 0, 5, true, "holding(0, 0) 0 -> 5", "totalHolding(0) 0 -> 5");
                t.fundSecurity(last, 0, 6, true, "holding(" + last + ", 0) 0 -> 6", "totalHolding(0) 5 -> 11");
                t.fundSecurity(participants, 0, 7, false);
            }
        });
    }

    private static void securities() {
        String words = "0 <= s < S";
        SECTION.each(words, "s is too small", Range.below(0), Scene::fresh, (t, s) -> t.fundSecurity(1, s, 1, false));
        SECTION.each(words, "s is too large", Range.above(1), Scene::fresh, (t, s) -> t.fundSecurity(1, s, 1, false));
        SECTION.test(words, "the last of each S, and the one behind", check -> {
            for (int securities = 1; securities <= 4; securities++) {
                Probe t = new Probe(check, 3, securities, 8, 2);
                int last = securities - 1;
                t.fundSecurity(1, last, 6, true, "holding(1, " + last + ") 0 -> 6",
                        "totalHolding(" + last + ") 0 -> 6");
                t.fundSecurity(1, securities, 7, false);
            }
        });
    }

    private static void quantities() {
        String words = "1 <= quantity <= MAX_AMOUNT";
        SECTION.each(words, "0 and less is too small", Range.below(1), () -> Scene.withTotalHolding(1, 1000),
                (t, quantity) -> t.fundSecurity(0, 1, quantity, false));
        SECTION.each(words, "more than a million is too large", Range.above(1000000), Scene::fresh,
                (t, quantity) -> t.fundSecurity(0, 1, quantity, false));
        SECTION.test(words, "1 is the least", check ->
                new Probe(check, 3, 2, 8, 2).fundSecurity(2, 1, 1, true, "holding(2, 1) 0 -> 1",
                        "totalHolding(1) 0 -> 1"));
        SECTION.test(words, "a million is the greatest", check ->
                new Probe(check, 3, 2, 8, 2).fundSecurity(2, 1, 1000000, true, "holding(2, 1) 0 -> 1000000",
                        "totalHolding(1) 0 -> 1000000"));
    }

    private static void totals() {
        String words = "totalHolding(s) + quantity <= MAX_TOTAL";
        SECTION.test(words, "up to the largest total", check ->
                new Probe(check, Scene.withTotalHolding(1, 99999998)).fundSecurity(2, 1, 2, true,
                        "holding(2, 1) 33000000 -> 33000002", "totalHolding(1) 99999998 -> 100000000"));
        SECTION.test(words, "1 above the largest total", check ->
                new Probe(check, Scene.withTotalHolding(1, 99999998)).fundSecurity(2, 1, 3, false));
        SECTION.test(words, "a million above the largest total", check ->
                new Probe(check, Scene.withTotalHolding(0, 99000001)).fundSecurity(1, 0, 1000000, false));
        SECTION.test(words, "nothing fits a full total", check -> {
            Probe t = new Probe(check, Scene.withTotalHolding(0, 100000000));
            t.fundSecurity(0, 0, 1, false);
            t.fundSecurity(1, 0, 1, false);
            t.fundSecurity(2, 0, 1000000, false);
        });
        SECTION.test(words, "each security has a total of its own", check ->
                new Probe(check, Scene.withTotalHolding(0, 100000000)).fundSecurity(0, 1, 1000000, true,
                        "holding(0, 1) 0 -> 1000000", "totalHolding(1) 0 -> 1000000"));
        SECTION.test(words, "cash does not count", check ->
                new Probe(check, Scene.withTotalCash(100000000)).fundSecurity(2, 0, 1000000, true,
                        "holding(2, 0) 0 -> 1000000", "totalHolding(0) 0 -> 1000000"));
        SECTION.test(words, "units that have moved count still", check -> {
            DvpSettler x = Scene.withTotalHolding(1, 100000000);
            x.submit(Probe.parties(0, 1), 1, 1000000, 0);
            check.due("cycle()", x.cycle(), 1);
            new Probe(check, x).fundSecurity(0, 1, 1, false);
        });
    }

    private static void changes() {
        SECTION.test("adds quantity to holding(p, s)", "every pair has a holding of its own", check -> {
            Probe t = new Probe(check, 8, 4, 8, 2);
            for (int p = 0; p < 8; p++) {
                for (int s = 0; s < 4; s++) {
                    t.fundSecurity(p, s, 1, true, "holding(" + p + ", " + s + ") 0 -> 1",
                            "totalHolding(" + s + ") " + p + " -> " + (p + 1));
                }
            }
            t.fundSecurity(7, 3, 9, true, "holding(7, 3) 1 -> 10", "totalHolding(3) 8 -> 17");
        });
        SECTION.test("holding(p, s) and totalHolding(s) increase by quantity and the answer is true",
                "from what was there", check -> new Probe(check, Scene.withTotalHolding(1, 2000001)).fundSecurity(1, 1,
                        999999, true, "holding(1, 1) 1000000 -> 1999999", "totalHolding(1) 2000001 -> 3000000"));
        SECTION.test("If any fails the answer is false and nothing changes", "when all of them fail", check ->
                new Probe(check, Scene.withTotalHolding(0, 100000000)).fundSecurity(-1, -1, 1000001, false));
        SECTION.test("Nothing else changes: no cash, no other holding, no slot, no counter, no removal record",
                "slots in every status", check -> new Probe(check, Scene.everyStatus()).fundSecurity(2, 0, 8, true,
                        "holding(2, 0) 0 -> 8", "totalHolding(0) 10 -> 18"));
    }
}
