public final class WhatItIsTest {
    private static final Section SECTION = new Section("What it is");
    private static final int PAIR = Probe.parties(0, 1);

    public static void main(String[] args) {
        balances();
        instructions();
        cycles();
        statuses();
        sequenceNumbers();
        largestAmounts();
        largestTotals();
        SECTION.finish();
    }

    private static void balances() {
        SECTION.test("PARTICIPANTS are numbered 0..P-1 and SECURITIES 0..S-1", "the ends, and one beyond each", check -> {
            DvpSettler x = new DvpSettler(5, 3, 8, 1);
            check.due("cash of -1, 0, 4, 5", x.cash(-1) + " " + x.cash(0) + " " + x.cash(4) + " " + x.cash(5),
                    "-1 0 0 -1");
            check.due("totalHolding of -1, 0, 2, 3", x.totalHolding(-1) + " " + x.totalHolding(0) + " "
                    + x.totalHolding(2) + " " + x.totalHolding(3), "-1 0 0 -1");
        });
        SECTION.test("Each participant p has a cash balance cash(p) and one holding(p, s) per security s",
                "each keeps its own amount", check -> {
                    DvpSettler x = new DvpSettler(8, 4, 8, 1);
                    for (int p = 0; p < 8; p++) {
                        x.fundCash(p, 1000 + p);
                        for (int s = 0; s < 4; s++) {
                            x.fundSecurity(p, s, 1 + 10 * p + s);
                        }
                    }
                    for (int p = 0; p < 8; p++) {
                        check.due("cash(" + p + ")", x.cash(p), 1000 + p);
                        for (int s = 0; s < 4; s++) {
                            check.due("holding(" + p + ", " + s + ")", x.holding(p, s), 1 + 10 * p + s);
                        }
                    }
                });
        SECTION.test("all start at 0", "of the largest object", check -> {
            DvpSettler x = new DvpSettler(8, 4, 64, 8);
            for (int p = 0; p < 8; p++) {
                check.due("cash(" + p + ")", x.cash(p), 0);
                for (int s = 0; s < 4; s++) {
                    check.due("holding(" + p + ", " + s + ")", x.holding(p, s), 0);
                }
            }
        });
        SECTION.test("settlement only moves cash and securities between participants", "by settleNow", check -> {
            DvpSettler x = oneSale();
            check.due("settleNow(0)", x.settleNow(0), true);
            check.due("totals", x.totalCash() + " " + x.totalHolding(0) + " " + x.totalHolding(1), "90 15 24");
        });
        SECTION.test("settlement only moves cash and securities between participants", "by cycle", check -> {
            DvpSettler x = oneSale();
            check.due("cycle()", x.cycle(), 1);
            check.due("totals", x.totalCash() + " " + x.totalHolding(0) + " " + x.totalHolding(1), "90 15 24");
        });
    }

    /** Slot 0 waits for 2 to deliver 5 of security 1 to 1, who pays 8; everyone has some of everything. */
    private static DvpSettler oneSale() {
        DvpSettler x = new DvpSettler(3, 2, 8, 1);
        for (int p = 0; p < 3; p++) {
            x.fundCash(p, 20 + 10 * p);
            x.fundSecurity(p, 0, 4 + p);
            x.fundSecurity(p, 1, 7 + p);
        }
        x.submit(Probe.parties(2, 1), 1, 5, 8);
        return x;
    }

    private static void instructions() {
        SECTION.test("An INSTRUCTION lives in a slot with id 0..Q-1", "the ends, and one beyond each", check -> {
            DvpSettler x = Scene.allQueued(11, 1);
            check.due("status of -1, 0, 10, 11", x.status(-1) + " " + x.status(0) + " " + x.status(10) + " "
                    + x.status(11), "-1 1 1 -1");
        });
        SECTION.test("the seller delivers quantity units of security to the buyer, and the buyer pays amount cash to the seller",
                "alone", check -> new Probe(check, oneSale()).settleNow(0, true, "holding(2, 1) 9 -> 4",
                        "holding(1, 1) 8 -> 13", "cash(1) 30 -> 22", "cash(2) 40 -> 48", "status(0) 1 -> 2",
                        "settledCycle(0) -1 -> 0"));
        SECTION.test("the seller delivers quantity units of security to the buyer, and the buyer pays amount cash to the seller",
                "in a cycle", check -> new Probe(check, oneSale()).cycle(1, "holding(2, 1) 9 -> 4",
                        "holding(1, 1) 8 -> 13", "cash(1) 30 -> 22", "cash(2) 40 -> 48", "status(0) 1 -> 2",
                        "settledCycle(0) -1 -> 1", "cycleCount() 0 -> 1"));
        SECTION.test("An instruction settles either alone (settleNow) or in a batch cycle (cycle)", "never twice", check -> {
            DvpSettler alone = oneSale();
            check.due("settleNow(0)", alone.settleNow(0), true);
            check.due("a cycle after it", alone.cycle(), 0);
            DvpSettler inCycle = oneSale();
            check.due("cycle()", inCycle.cycle(), 1);
            check.due("settleNow(0) after it", inCycle.settleNow(0), false);
            check.due("holding(2, 1)", alone.holding(2, 1) + " " + inCycle.holding(2, 1), "4 4");
        });
    }

    private static void cycles() {
        SECTION.test("so circles of trades that are each impossible alone (gridlock) can settle together", "of eight",
                check -> {
                    DvpSettler x = new DvpSettler(8, 1, 8, 1);
                    for (int p = 0; p < 8; p++) {
                        x.submit(Probe.parties(p, (p + 1) % 8), 0, 1000000, 1000000);
                    }
                    for (int id = 0; id < 8; id++) {
                        check.due("settleNow(" + id + ")", x.settleNow(id), false);
                    }
                    check.due("cycle()", x.cycle(), 8);
                    check.due("totals", x.totalCash() + " " + x.totalHolding(0), "0 0");
                });
        SECTION.test("computes every participant's net position as if all settled at once",
                "what comes in pays for what goes out, whatever the slots", check -> {
                    DvpSettler x = new DvpSettler(3, 1, 8, 1);
                    x.fundSecurity(0, 0, 1);
                    x.fundCash(2, 1);
                    x.submit(Probe.parties(1, 2), 0, 1, 1);
                    x.submit(Probe.parties(0, 1), 0, 1, 1);
                    check.due("cycle()", x.cycle(), 2);
                });
        SECTION.test("while some participant would end negative it drops one instruction", "one broken link breaks all",
                check -> {
                    DvpSettler x = new DvpSettler(8, 1, 8, 1);
                    for (int p = 0; p < 7; p++) {
                        x.submit(Probe.parties(p, p + 1), 0, 1, 0);
                    }
                    check.due("cycle()", x.cycle(), 0);
                    check.due("the record", Probe.record(x), "[0, 1, 2, 3, 4, 5, 6]");
                });
        SECTION.test("Dropped instructions are recycled to the next cycle and are given up as FAILED after maxRecycles drops",
                "two drops of two", check -> {
                    DvpSettler x = Scene.allQueued(8, 2);
                    x.cycle();
                    check.due("status(0) after one", x.status(0), DvpSettler.QUEUED);
                    x.cycle();
                    check.due("status(0) after two", x.status(0), DvpSettler.FAILED);
                });
    }

    private static void statuses() {
        SECTION.test("EMPTY (0): no instruction in the slot", "nothing to cancel, settle or clear", check -> {
            DvpSettler x = new DvpSettler(2, 1, 8, 1);
            check.due("status(0)", x.status(0), 0);
            check.due("cancel(0)", x.cancel(0), false);
            check.due("settleNow(0)", x.settleNow(0), false);
            check.due("clearDone()", x.clearDone(), 0);
        });
        SECTION.test("QUEUED (1): waiting to settle", "after submit, and until it settles", check -> {
            DvpSettler x = oneSale();
            check.due("status(0)", x.status(0), 1);
            check.due("clearDone()", x.clearDone(), 0);
            check.due("status(0) after clearDone", x.status(0), 1);
            check.due("settleNow(0)", x.settleNow(0), true);
        });
        SECTION.test("SETTLED (2): both legs were moved", "alone and in a cycle", check -> {
            DvpSettler alone = oneSale();
            alone.settleNow(0);
            DvpSettler inCycle = oneSale();
            inCycle.cycle();
            check.due("status(0)", alone.status(0) + " " + inCycle.status(0), "2 2");
            check.due("holding(1, 1)", alone.holding(1, 1) + " " + inCycle.holding(1, 1), "13 13");
            check.due("cash(2)", alone.cash(2) + " " + inCycle.cash(2), "48 48");
        });
        SECTION.test("CANCELLED (3): withdrawn by cancel", "it settles in no way", check -> {
            DvpSettler x = oneSale();
            check.due("cancel(0)", x.cancel(0), true);
            check.due("status(0)", x.status(0), 3);
            check.due("settleNow(0)", x.settleNow(0), false);
            check.due("cycle()", x.cycle(), 0);
            check.due("cash(2)", x.cash(2), 40);
        });
        SECTION.test("FAILED (4): removed by cycles maxRecycles times, given up", "with funds that come too late", check -> {
            DvpSettler x = Scene.allQueued(8, 1);
            x.cycle();
            x.fundSecurity(0, 0, 8);
            check.due("settleNow(0)", x.settleNow(0), false);
            check.due("cycle()", x.cycle(), 0);
            check.due("status(0)", x.status(0), DvpSettler.FAILED);
        });
        SECTION.test("EMPTY = 0, QUEUED = 1, SETTLED = 2, CANCELLED = 3, FAILED = 4", "the constants", check ->
                check.due("the constants", DvpSettler.EMPTY + " " + DvpSettler.QUEUED + " " + DvpSettler.SETTLED + " "
                        + DvpSettler.CANCELLED + " " + DvpSettler.FAILED, "0 1 2 3 4"));
    }

    private static void sequenceNumbers() {
        SECTION.test("the count of submissions accepted before it on this object (0, 1, 2, ...)",
                "slots that were filled out of order", check -> {
                    DvpSettler x = Scene.allQueued(8, 2);
                    x.cancel(5);
                    x.clearDone();
                    x.submit(PAIR, 0, 1, 0);
                    x.cancel(2);
                    x.clearDone();
                    x.submit(PAIR, 0, 1, 0);
                    x.cycle();
                    check.due("the record", Probe.record(x), "[2, 5, 7, 6, 4, 3, 1, 0]");
                });
        String words = "Sequence numbers are never reused, not even after clearDone";
        SECTION.test(words, "when only the last accepted is left", check -> {
            DvpSettler x = Scene.allQueued(8, 2);
            for (int id = 0; id < 7; id++) {
                x.cancel(id);
            }
            x.clearDone();
            x.submit(PAIR, 0, 1, 0);
            x.cycle();
            check.due("the record", Probe.record(x), "[0, 7]");
        });
        youngestAfter(words, 128, "more than a byte counts");
        youngestAfter(words, 256, "a counter of one byte is back at its start");
        youngestAfter(words, 32768, "more than a short counts");
        youngestAfter(words, 65536, "a counter of two bytes is back at its start");
    }

    /** Slot 1 keeps an old instruction while slot 0 is used again and again: the last one there is the youngest. */
    private static void youngestAfter(String words, int accepted, String what) {
        SECTION.test(words, what, check -> {
            DvpSettler x = new DvpSettler(2, 1, 8, 2);
            x.submit(PAIR, 0, 1, 0);
            x.submit(PAIR, 0, 1, 0);
            for (int i = 2; i < accepted; i++) {
                x.cancel(0);
                x.clearDone();
                x.submit(PAIR, 0, 1, 0);
            }
            x.cancel(0);
            x.clearDone();
            x.submit(PAIR, 0, 1, 0);
            x.cycle();
            check.due("the record", Probe.record(x), "[0, 1]");
        });
    }

    private static void largestAmounts() {
        String words = "MAX_AMOUNT = 1000000: the largest single funding amount, quantity or payment amount";
        SECTION.test(words, "of fundCash", check -> {
            check.due("MAX_AMOUNT", DvpSettler.MAX_AMOUNT, 1000000);
            check.due("a million", new DvpSettler(2, 1, 8, 1).fundCash(0, 1000000), true);
            check.due("one more", new DvpSettler(2, 1, 8, 1).fundCash(0, 1000001), false);
        });
        SECTION.test(words, "of fundSecurity", check -> {
            check.due("a million", new DvpSettler(2, 1, 8, 1).fundSecurity(0, 0, 1000000), true);
            check.due("one more", new DvpSettler(2, 1, 8, 1).fundSecurity(0, 0, 1000001), false);
        });
        SECTION.test(words, "of a quantity", check -> {
            check.due("a million", new DvpSettler(2, 1, 8, 1).submit(PAIR, 0, 1000000, 0), 0);
            check.due("one more", new DvpSettler(2, 1, 8, 1).submit(PAIR, 0, 1000001, 0), -1);
        });
        SECTION.test(words, "of a payment", check -> {
            check.due("a million", new DvpSettler(2, 1, 8, 1).submit(PAIR, 0, 1, 1000000), 0);
            check.due("one more", new DvpSettler(2, 1, 8, 1).submit(PAIR, 0, 1, 1000001), -1);
        });
    }

    private static void largestTotals() {
        String words = "MAX_TOTAL = 100000000: the largest total cash, and the largest total of each security";
        SECTION.test(words, "of cash", check -> {
            check.due("MAX_TOTAL", DvpSettler.MAX_TOTAL, 100000000);
            DvpSettler x = Scene.withTotalCash(99999999);
            check.due("fundCash(2, 1)", x.fundCash(2, 1), true);
            check.due("fundCash(1, 1)", x.fundCash(1, 1), false);
        });
        SECTION.test(words, "of every security at once", check -> {
            DvpSettler x = new DvpSettler(2, 4, 8, 1);
            for (int s = 0; s < 4; s++) {
                for (int i = 0; i < 100; i++) {
                    check.due("fundSecurity", x.fundSecurity(i % 2, s, 1000000), true);
                }
                check.due("totalHolding(" + s + ")", x.totalHolding(s), 100000000);
                check.due("one unit more", x.fundSecurity(0, s, 1), false);
            }
        });
    }
}
