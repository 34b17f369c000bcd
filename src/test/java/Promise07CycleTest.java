public final class Promise07CycleTest {
    private static final Section SECTION = new Section("Promise 7: cycle");

    public static void main(String[] args) {
        countAndRecord();
        candidates();
        nets();
        deficits();
        ties();
        removableForCash();
        removableForASecurity();
        removals();
        settlement();
        recycling();
        answers();
        SECTION.finish();
    }

    private static void countAndRecord() {
        SECTION.test("is never refused", "on a new object", check -> {
            Probe t = new Probe(check, 2, 1, 8, 1);
            t.cycle(0, "cycleCount() 0 -> 1");
            t.cycle(0, "cycleCount() 1 -> 2");
        });
        SECTION.test("The cycle count increases by 1", "when all are removed", check ->
                new Probe(check, oneUncovered()).cycle(0, "cycleCount() 0 -> 1", "removedAt(0) -1 -> 0",
                        "attempts(0) 0 -> 1"));
        SECTION.test("The removal record is emptied", "when no slot is QUEUED", check -> {
            DvpSettler x = Scene.everyStatus();
            x.cancel(Scene.QUEUED);
            new Probe(check, x).cycle(0, "cycleCount() 2 -> 3", "removedAt(0) 4 -> -1", "removedAt(1) 3 -> -1");
        });
        SECTION.test("The removal record is emptied", "when fewer are removed than before", check ->
                new Probe(check, Scene.everyStatus()).cycle(0, "cycleCount() 2 -> 3", "removedAt(1) 3 -> -1",
                        "attempts(4) 1 -> 2", "status(4) 1 -> 4"));
        SECTION.test("The removal record is emptied", "when all settle", check -> {
            DvpSettler x = oneUncovered();
            x.cycle();
            x.fundSecurity(0, 0, 1);
            new Probe(check, x).cycle(1, "cycleCount() 1 -> 2", "removedAt(0) 0 -> -1", "holding(0, 0) 1 -> 0",
                    "holding(1, 0) 0 -> 1", "status(0) 1 -> 2", "settledCycle(0) -1 -> 2");
        });
    }

    /** Slot 0 waits for 0 to deliver to 1 one unit that 0 does not have. */
    private static DvpSettler oneUncovered() {
        DvpSettler x = new DvpSettler(2, 1, 8, 8);
        x.submit(Probe.parties(0, 1), 0, 1, 0);
        return x;
    }

    private static void candidates() {
        String words = "The candidate set C is all slots with status QUEUED";
        SECTION.test(words, "every slot of a full object", check -> {
            for (int capacity = 8; capacity <= 64; capacity += 14) {
                DvpSettler x = Scene.allQueued(capacity, 1);
                x.fundSecurity(0, 0, capacity);
                check.due("cycle() of " + capacity, x.cycle(), capacity);
                check.due("status of the last", x.status(capacity - 1), DvpSettler.SETTLED);
                check.due("holding(1, 0)", x.holding(1, 0), capacity);
            }
        });
        SECTION.test(words, "the last slot alone", check -> {
            DvpSettler x = Scene.allQueued(8, 1);
            for (int id = 0; id < 7; id++) {
                x.cancel(id);
            }
            x.fundSecurity(0, 0, 8);
            new Probe(check, x).cycle(1, "cycleCount() 0 -> 1", "holding(0, 0) 8 -> 7", "holding(1, 0) 0 -> 1",
                    "status(7) 1 -> 2", "settledCycle(7) -1 -> 1");
        });
        SECTION.test("Slots that were not QUEUED at step 2 are untouched", "slots in every status, with funds for all",
                check -> {
                    DvpSettler x = Scene.everyStatus();
                    x.fundSecurity(2, 1, 1000);
                    x.fundSecurity(0, 0, 1000);
                    new Probe(check, x).cycle(1, "cycleCount() 2 -> 3", "removedAt(0) 4 -> -1", "removedAt(1) 3 -> -1",
                            "holding(2, 1) 1000 -> 994", "holding(1, 1) 0 -> 6", "cash(1) 50 -> 43", "cash(2) 0 -> 7",
                            "status(4) 1 -> 2", "settledCycle(4) -1 -> 3");
                });
        SECTION.test("Slots that were not QUEUED at step 2 are untouched", "slots freed by clearDone", check -> {
            DvpSettler x = Scene.everyStatus();
            x.cancel(Scene.QUEUED);
            x.clearDone();
            x.fundSecurity(2, 1, 1000);
            new Probe(check, x).cycle(0, "cycleCount() 2 -> 3", "removedAt(0) 4 -> -1", "removedAt(1) 3 -> -1");
        });
    }

    private static void nets() {
        SECTION.test("netCash(p) = cash(p) + sum of amount where p is seller - sum of amount where p is buyer",
                "what 0 earns pays for what it buys, to the last unit", check -> {
                    DvpSettler x = twoSales(25, 25);
                    new Probe(check, x).cycle(2, "cycleCount() 0 -> 1", "cash(1) 25 -> 0", "cash(2) 0 -> 25",
                            "holding(0, 0) 4 -> 0", "holding(1, 0) 0 -> 4", "holding(2, 1) 6 -> 0",
                            "holding(0, 1) 0 -> 6", "status(0) 1 -> 2", "status(1) 1 -> 2",
                            "settledCycle(0) -1 -> 1", "settledCycle(1) -1 -> 1");
                });
        SECTION.test("netCash(p) = cash(p) + sum of amount where p is seller - sum of amount where p is buyer",
                "one unit less does not", check -> {
                    DvpSettler x = twoSales(25, 24);
                    new Probe(check, x).cycle(1, "cycleCount() 0 -> 1", "removedAt(0) -1 -> 0", "attempts(0) 0 -> 1",
                            "cash(1) 25 -> 1", "cash(0) 0 -> 24", "holding(0, 0) 4 -> 0", "holding(1, 0) 0 -> 4",
                            "status(1) 1 -> 2", "settledCycle(1) -1 -> 1");
                });
        String words = "netSec(p, s) = holding(p, s) + sum of quantity where p is buyer and security s"
                + " - sum of quantity where p is seller and security s";
        SECTION.test(words, "what 1 receives it hands on, to the last unit", check ->
                new Probe(check, handedOn(9)).cycle(2, "cycleCount() 0 -> 1", "holding(0, 0) 9 -> 0",
                        "holding(2, 0) 0 -> 9", "status(0) 1 -> 2", "status(1) 1 -> 2",
                        "settledCycle(0) -1 -> 1", "settledCycle(1) -1 -> 1"));
        SECTION.test(words, "one unit more it does not", check ->
                new Probe(check, handedOn(10)).cycle(1, "cycleCount() 0 -> 1", "removedAt(0) -1 -> 1",
                        "attempts(1) 0 -> 1", "holding(0, 0) 9 -> 0", "holding(1, 0) 0 -> 9",
                        "status(0) 1 -> 2", "settledCycle(0) -1 -> 1"));
        SECTION.test(words, "another security does not help", check -> {
            DvpSettler x = new DvpSettler(3, 2, 8, 2);
            x.fundSecurity(0, 1, 9);
            x.submit(Probe.parties(0, 1), 1, 9, 0);
            x.submit(Probe.parties(1, 2), 0, 9, 0);
            new Probe(check, x).cycle(1, "cycleCount() 0 -> 1", "removedAt(0) -1 -> 1", "attempts(1) 0 -> 1",
                    "holding(0, 1) 9 -> 0", "holding(1, 1) 0 -> 9", "status(0) 1 -> 2", "settledCycle(0) -1 -> 1");
        });
    }

    /** 0 buys for 25 from 2 without cash of its own, and sells to 1, who has the cash told, for the price told. */
    private static DvpSettler twoSales(int cash, int price) {
        DvpSettler x = new DvpSettler(3, 2, 8, 2);
        x.fundSecurity(0, 0, 4);
        x.fundSecurity(2, 1, 6);
        x.fundCash(1, cash);
        x.submit(Probe.parties(2, 0), 1, 6, 25);
        x.submit(Probe.parties(0, 1), 0, 4, price);
        return x;
    }

    /** 0 delivers all its 9 to 1, and 1 as many as told to 2. */
    private static DvpSettler handedOn(int quantity) {
        DvpSettler x = new DvpSettler(3, 1, 8, 2);
        x.fundSecurity(0, 0, 9);
        x.submit(Probe.parties(0, 1), 0, 9, 0);
        x.submit(Probe.parties(1, 2), 0, quantity, 0);
        return x;
    }

    private static void removed(String words, String what, DvpSettler x, String record) {
        SECTION.test(words, what, check -> {
            x.cycle();
            check.due("the record", Probe.record(x), record);
        });
    }

    private static void deficits() {
        String cash = "(-netCash(p) if negative, else 0)";
        DvpSettler richSeller = new DvpSettler(4, 1, 8, 2);
        richSeller.fundCash(0, 1000);
        richSeller.submit(Probe.parties(0, 1), 0, 5, 0);
        richSeller.submit(Probe.parties(2, 3), 0, 4, 0);
        removed(cash, "cash to spare does not make up for a missing security", richSeller, "[0, 1]");

        DvpSettler poorBuyer = new DvpSettler(4, 1, 8, 2);
        poorBuyer.fundSecurity(3, 0, 1);
        poorBuyer.submit(Probe.parties(3, 1), 0, 1, 5);
        poorBuyer.submit(Probe.parties(0, 2), 0, 4, 0);
        removed(cash, "cash that is missing counts", poorBuyer, "[0, 1]");

        String securities = "sum over s of (-netSec(p, s) if negative, else 0)";
        DvpSettler otherSecurity = new DvpSettler(4, 2, 8, 2);
        otherSecurity.fundSecurity(0, 0, 1000);
        otherSecurity.submit(Probe.parties(0, 1), 1, 5, 0);
        otherSecurity.submit(Probe.parties(2, 3), 1, 4, 0);
        removed(securities, "one security to spare does not make up for another", otherSecurity, "[0, 1]");

        DvpSettler allSecurities = new DvpSettler(4, 4, 8, 2);
        for (int s = 0; s < 4; s++) {
            allSecurities.submit(Probe.parties(2, 3), s, 3, 0);
        }
        allSecurities.submit(Probe.parties(0, 1), 0, 11, 0);
        // Participant 2 is short by 12 in all, more than 11; then by 9, less than 11.
        removed(securities, "all four securities add up", allSecurities, "[3, 4, 2, 1, 0]");

        DvpSettler both = new DvpSettler(4, 2, 8, 2);
        both.fundSecurity(3, 0, 2);
        both.submit(Probe.parties(0, 2), 0, 4, 0);
        both.submit(Probe.parties(0, 2), 1, 3, 0);
        both.submit(Probe.parties(3, 0), 0, 1, 3);
        both.submit(Probe.parties(3, 1), 0, 1, 8);
        // Participant 0 is short by 3 in cash and in each security, 9 in all, against 8 of
        // participant 1; without instruction 2 it is short by 7, less than participant 1.
        removed(securities, "cash and securities add up", both, "[2, 3, 1, 0]");

        String none = "If every deficit is 0, leave the loop";
        SECTION.test(none, "balances that end at 0 are no deficit", check ->
                new Probe(check, paid(9)).cycle(1, "cycleCount() 0 -> 1", "cash(1) 9 -> 0", "cash(0) 0 -> 9",
                        "holding(0, 0) 4 -> 0", "holding(1, 0) 0 -> 4", "status(0) 1 -> 2", "settledCycle(0) -1 -> 1"));
        SECTION.test(none, "a deficit of 1 is one", check -> new Probe(check, paid(8)).cycle(0, "cycleCount() 0 -> 1",
                "removedAt(0) -1 -> 0", "attempts(0) 0 -> 1"));
        SECTION.test(none, "the last participant's deficit is one", check -> {
            DvpSettler x = new DvpSettler(8, 4, 8, 2);
            x.submit(Probe.parties(7, 0), 3, 1, 0);
            new Probe(check, x).cycle(0, "cycleCount() 0 -> 1", "removedAt(0) -1 -> 0", "attempts(0) 0 -> 1");
        });
    }

    /** 0 has the 4 that it sells to 1 for 9; 1 has the cash told. */
    private static DvpSettler paid(int cash) {
        DvpSettler x = new DvpSettler(2, 1, 8, 2);
        x.fundSecurity(0, 0, 4);
        x.fundCash(1, cash);
        x.submit(Probe.parties(0, 1), 0, 4, 9);
        return x;
    }

    private static DvpSettler twoShortSellers(int first, int second) {
        DvpSettler x = new DvpSettler(4, 1, 8, 2);
        x.submit(Probe.parties(0, 3), 0, first, 0);
        x.submit(Probe.parties(2, 3), 0, second, 0);
        return x;
    }

    private static void ties() {
        String words = "let d be the participant with the largest deficit (ties: lowest number)";
        removed(words, "a tie", twoShortSellers(5, 5), "[0, 1]");
        removed(words, "one more of the higher number", twoShortSellers(5, 6), "[1, 0]");
        removed(words, "one more of the lower number", twoShortSellers(6, 5), "[0, 1]");

        DvpSettler kinds = new DvpSettler(4, 1, 8, 2);
        kinds.fundSecurity(3, 0, 1);
        kinds.submit(Probe.parties(3, 1), 0, 1, 5);
        kinds.submit(Probe.parties(2, 0), 0, 5, 0);
        removed(words, "a tie between cash and a security", kinds, "[0, 1]");

        DvpSettler many = new DvpSettler(8, 1, 8, 2);
        for (int p = 7; p >= 1; p--) {
            many.submit(Probe.parties(p, 0), 0, 5, 0);
        }
        removed(words, "a tie of seven", many, "[6, 5, 4, 3, 2, 1, 0]");
    }

    private static void removableForCash() {
        String words = "those in C where d is buyer, amount > 0 and netCash(d) < 0";
        removed(words, "a younger purchase for an amount of 0 stays", purchases(1, 0, 0), "[0]");
        removed(words, "a younger purchase for an amount of 1 goes", purchases(1, 1, 1), "[1]");
        removed(words, "of two purchases both go where there is no cash", purchases(1, 1, 0), "[1, 0]");

        DvpSettler even = new DvpSettler(2, 2, 8, 2);
        even.fundSecurity(1, 1, 1);
        even.fundCash(0, 3);
        even.submit(Probe.parties(0, 1), 0, 5, 0);
        even.submit(Probe.parties(1, 0), 1, 1, 3);
        removed(words, "a younger purchase stays while net cash is 0", even, "[0]");

        DvpSettler covered = new DvpSettler(2, 2, 8, 2);
        covered.fundSecurity(0, 1, 1);
        covered.fundSecurity(1, 0, 1);
        covered.submit(Probe.parties(1, 0), 0, 1, 1);
        covered.submit(Probe.parties(0, 1), 1, 1, 0);
        removed(words, "a younger sale that is covered stays", covered, "[0]");
    }

    /** 0 buys a unit from 1, which 1 has, for each of the two prices. */
    private static DvpSettler purchases(int first, int second, int cash) {
        DvpSettler x = new DvpSettler(2, 1, 8, 2);
        x.fundSecurity(1, 0, 2);
        x.fundCash(0, cash);
        x.submit(Probe.parties(1, 0), 0, 1, first);
        x.submit(Probe.parties(1, 0), 0, 1, second);
        return x;
    }

    private static void removableForASecurity() {
        String words = "those in C where d is seller and netSec(d, security) < 0";
        DvpSettler even = new DvpSettler(3, 2, 8, 2);
        even.fundSecurity(2, 0, 7);
        even.submit(Probe.parties(2, 1), 1, 5, 0);
        even.submit(Probe.parties(2, 1), 0, 7, 0);
        removed(words, "a younger sale of a security whose net is 0 stays", even, "[0]");

        DvpSettler shortOfBoth = new DvpSettler(3, 2, 8, 2);
        shortOfBoth.fundSecurity(2, 0, 6);
        shortOfBoth.submit(Probe.parties(2, 1), 1, 5, 0);
        shortOfBoth.submit(Probe.parties(2, 1), 0, 7, 0);
        removed(words, "a younger sale of a security whose net is -1 goes", shortOfBoth, "[1, 0]");

        DvpSettler others = new DvpSettler(3, 1, 8, 2);
        others.fundSecurity(1, 0, 5);
        others.submit(Probe.parties(0, 2), 0, 5, 0);
        others.submit(Probe.parties(1, 2), 0, 5, 0);
        removed(words, "a younger sale by another stays", others, "[0]");

        DvpSettler free = new DvpSettler(2, 1, 8, 2);
        free.submit(Probe.parties(0, 1), 0, 5, 0);
        removed("There is always at least one", "a sale for nothing is the only one", free, "[0]");

        DvpSettler mixed = new DvpSettler(3, 2, 8, 2);
        mixed.fundSecurity(1, 1, 2);
        mixed.submit(Probe.parties(1, 0), 1, 1, 5);
        mixed.submit(Probe.parties(0, 2), 0, 5, 0);
        mixed.submit(Probe.parties(1, 0), 1, 1, 5);
        // Participant 0 is short of cash and of security 0: purchases and sales go by age alone.
        removed("Remove from C the removable instruction with the largest sequence number",
                "purchases and sales together", mixed, "[2, 1, 0]");
    }

    private static void removals() {
        String youngest = "Remove from C the removable instruction with the largest sequence number";
        DvpSettler reused = Scene.allQueued(8, 2);
        reused.fundSecurity(0, 0, 6);
        reused.cancel(1);
        reused.clearDone();
        reused.submit(Probe.parties(0, 1), 0, 1, 0);
        removed(youngest, "the youngest is in a low slot", reused, "[1, 7]");

        DvpSettler recycled = new DvpSettler(2, 1, 8, 8);
        recycled.submit(Probe.parties(0, 1), 0, 1, 0);
        recycled.submit(Probe.parties(0, 1), 0, 1, 0);
        recycled.cancel(0);
        recycled.clearDone();
        recycled.cycle();
        recycled.submit(Probe.parties(0, 1), 0, 1, 0);
        removed(youngest, "a recycled instruction keeps its age", recycled, "[0, 1]");

        SECTION.test("Totals, the sequence counter and all slots not in the initial C are unchanged",
                "recycled instructions keep their age among each other", check -> {
                    DvpSettler x = Scene.allQueued(8, 8);
                    for (int c = 1; c <= 3; c++) {
                        x.cycle();
                        check.due("the record of cycle " + c, Probe.record(x), "[7, 6, 5, 4, 3, 2, 1, 0]");
                    }
                });
        SECTION.test("append its id to the removal record", "64 removals", check -> {
            DvpSettler x = Scene.allQueued(64, 2);
            x.cycle();
            for (int k = 0; k < 64; k++) {
                check.due("removedAt(" + k + ")", x.removedAt(k), 63 - k);
            }
            check.due("removedAt(64)", x.removedAt(64), -1);
        });

        DvpSettler chain = new DvpSettler(4, 1, 8, 2);
        chain.submit(Probe.parties(0, 1), 0, 5, 0);
        chain.submit(Probe.parties(1, 2), 0, 5, 0);
        chain.submit(Probe.parties(2, 3), 0, 5, 0);
        removed("Then repeat", "each removal leaves the next one short", chain, "[0, 1, 2]");

        SECTION.test("Then repeat", "what was removed does not come back when it would fit again", check -> {
            DvpSettler x = new DvpSettler(3, 2, 8, 2);
            x.fundCash(1, 100);
            x.fundSecurity(2, 1, 1);
            x.submit(Probe.parties(0, 1), 0, 10, 100);
            x.submit(Probe.parties(2, 1), 1, 1, 100);
            new Probe(check, x).cycle(0, "cycleCount() 0 -> 1", "removedAt(0) -1 -> 1", "removedAt(1) -1 -> 0",
                    "attempts(0) 0 -> 1", "attempts(1) 0 -> 1");
        });
        SECTION.test("When C is empty every deficit is 0", "every slot is removed and no balance moves", check -> {
            for (int capacity = 8; capacity <= 64; capacity += 14) {
                DvpSettler x = new DvpSettler(2, 1, capacity, 2);
                x.fundSecurity(0, 0, 3);
                x.fundCash(1, 4);
                for (int id = 0; id < capacity; id++) {
                    x.submit(Probe.parties(0, 1), 0, 5, 6);
                }
                check.due("cycle() of " + capacity, x.cycle(), 0);
                check.due("the last removed", x.removedAt(capacity - 1), 0);
                check.due("cash(0)", x.cash(0), 0);
                check.due("cash(1)", x.cash(1), 4);
                check.due("holding(0, 0)", x.holding(0, 0), 3);
                check.due("holding(1, 0)", x.holding(1, 0), 0);
            }
        });
    }

    private static void settlement() {
        SECTION.test("Every instruction left in C settles at once", "a circle without any funds", check -> {
            DvpSettler x = new DvpSettler(3, 1, 8, 1);
            x.submit(Probe.parties(0, 1), 0, 10, 5);
            x.submit(Probe.parties(1, 2), 0, 10, 5);
            x.submit(Probe.parties(2, 0), 0, 10, 5);
            new Probe(check, x).cycle(3, "cycleCount() 0 -> 1", "status(0) 1 -> 2", "status(1) 1 -> 2",
                    "status(2) 1 -> 2", "settledCycle(0) -1 -> 1", "settledCycle(1) -1 -> 1",
                    "settledCycle(2) -1 -> 1");
        });
        SECTION.test("becomes its net value from the last computation of step 3", "the removed take no part", check -> {
            DvpSettler x = new DvpSettler(2, 2, 8, 2);
            x.fundSecurity(1, 0, 2);
            x.fundSecurity(0, 1, 1);
            x.submit(Probe.parties(1, 0), 0, 1, 1);
            x.submit(Probe.parties(1, 0), 0, 1, 0);
            x.submit(Probe.parties(0, 1), 1, 1, 0);
            new Probe(check, x).cycle(2, "cycleCount() 0 -> 1", "removedAt(0) -1 -> 0", "attempts(0) 0 -> 1",
                    "holding(1, 0) 2 -> 1", "holding(0, 0) 0 -> 1", "holding(0, 1) 1 -> 0", "holding(1, 1) 0 -> 1",
                    "status(1) 1 -> 2", "status(2) 1 -> 2", "settledCycle(1) -1 -> 1", "settledCycle(2) -1 -> 1");
        });
        SECTION.test("status becomes SETTLED with settled cycle c", "cycles that settle nothing count", check -> {
            DvpSettler x = oneUncovered();
            x.cycle();
            x.cycle();
            x.fundSecurity(0, 0, 1);
            x.cycle();
            check.due("status(0)", x.status(0), DvpSettler.SETTLED);
            check.due("settledCycle(0)", x.settledCycle(0), 3);
        });
        SECTION.test("Their attempts are unchanged", "settled after two attempts", check -> {
            DvpSettler x = oneUncovered();
            x.cycle();
            x.cycle();
            x.fundSecurity(0, 0, 1);
            x.cycle();
            check.due("attempts(0)", x.attempts(0), 2);
        });
        SECTION.test("Their attempts are unchanged", "settled at the first go", check -> {
            DvpSettler x = paid(9);
            x.cycle();
            check.due("attempts(0)", x.attempts(0), 0);
        });
        SECTION.test("Totals, the sequence counter and all slots not in the initial C are unchanged",
                "the largest totals, all of it moved", check -> {
                    DvpSettler x = new DvpSettler(2, 1, 64, 1);
                    for (int i = 0; i < 100; i++) {
                        x.fundCash(i < 36 ? 0 : 1, 1000000);
                        x.fundSecurity(i < 64 ? 0 : 1, 0, 1000000);
                    }
                    for (int id = 0; id < 64; id++) {
                        x.submit(Probe.parties(0, 1), 0, 1000000, 1000000);
                    }
                    check.due("cycle()", x.cycle(), 64);
                    check.due("cash(0)", x.cash(0), 100000000);
                    check.due("cash(1)", x.cash(1), 0);
                    check.due("holding(0, 0)", x.holding(0, 0), 0);
                    check.due("holding(1, 0)", x.holding(1, 0), 100000000);
                    check.due("totalCash()", x.totalCash(), 100000000);
                    check.due("totalHolding(0)", x.totalHolding(0), 100000000);
                });
    }

    private static void recycling() {
        String words = "if attempts >= R its status becomes FAILED, else it stays QUEUED (it is recycled)";
        for (int r = 1; r <= 8; r++) {
            int limit = r;
            SECTION.test(words, "R is " + limit, check -> {
                DvpSettler x = new DvpSettler(2, 1, 8, limit);
                x.submit(Probe.parties(0, 1), 0, 1, 0);
                for (int c = 1; c < limit; c++) {
                    x.cycle();
                    check.due("attempts(0) after cycle " + c, x.attempts(0), c);
                    check.due("status(0) after cycle " + c, x.status(0), DvpSettler.QUEUED);
                }
                x.cycle();
                check.due("attempts(0) after R cycles", x.attempts(0), limit);
                check.due("status(0) after R cycles", x.status(0), DvpSettler.FAILED);
            });
        }
        SECTION.test("For every removed instruction, in removal order: attempts increases by 1",
                "each has attempts of its own", check -> {
                    DvpSettler x = new DvpSettler(2, 1, 8, 2);
                    x.submit(Probe.parties(0, 1), 0, 1, 0);
                    x.cycle();
                    x.submit(Probe.parties(0, 1), 0, 1, 0);
                    new Probe(check, x).cycle(0, "cycleCount() 1 -> 2", "removedAt(0) 0 -> 1", "removedAt(1) -1 -> 0",
                            "attempts(0) 1 -> 2", "status(0) 1 -> 4", "attempts(1) 0 -> 1");
                });
        SECTION.test("it stays QUEUED (it is recycled)", "it takes part in the next cycle", check -> {
            DvpSettler x = paid(8);
            x.cycle();
            x.fundCash(1, 1);
            new Probe(check, x).cycle(1, "cycleCount() 1 -> 2", "removedAt(0) 0 -> -1", "cash(1) 9 -> 0",
                    "cash(0) 0 -> 9", "holding(0, 0) 4 -> 0", "holding(1, 0) 0 -> 4", "status(0) 1 -> 2",
                    "settledCycle(0) -1 -> 2");
        });
        SECTION.test("its status becomes FAILED", "it takes part in no later cycle", check -> {
            DvpSettler x = Scene.allQueued(8, 1);
            x.cycle();
            x.fundSecurity(0, 0, 8);
            check.due("cycle()", x.cycle(), 0);
            check.due("attempts(0)", x.attempts(0), 1);
            check.due("holding(0, 0)", x.holding(0, 0), 8);
        });
    }

    private static void answers() {
        String words = "The answer is the number of instructions settled in step 4 (0 if none";
        SECTION.test(words, "all were removed", check -> check.due("cycle()", Scene.allQueued(8, 2).cycle(), 0));
        SECTION.test(words, "some were removed", check -> {
            DvpSettler x = Scene.allQueued(8, 2);
            x.fundSecurity(0, 0, 3);
            check.due("cycle()", x.cycle(), 3);
        });
        SECTION.test("for example when no slot is QUEUED", "but slots in the other statuses are there", check -> {
            DvpSettler x = Scene.everyStatus();
            x.cancel(Scene.QUEUED);
            check.due("cycle()", x.cycle(), 0);
        });
    }
}
