public final class GeneralRulesTest {
    private static final Section SECTION = new Section("What it is");
    private static final int PAIR = Probe.parties(0, 1);

    public static void main(String[] args) {
        overview();
        sequenceNumbers();
        largestAmounts();
        largestTotals();
        refusedCalls();
        getters();
        totals();
        balances();
        SECTION.finish();
    }

    private static void overview() {
        SECTION.test("PARTICIPANTS are numbered 0..P-1 and SECURITIES 0..S-1", "the ends, and one beyond each", check -> {
            DvpSettler x = new DvpSettler(5, 3, 8, 1);
            check.due("cash of -1, 0, 4, 5", x.cash(-1) + " " + x.cash(0) + " " + x.cash(4) + " " + x.cash(5),
                    "-1 0 0 -1");
            check.due("totalHolding of -1, 0, 2, 3", x.totalHolding(-1) + " " + x.totalHolding(0) + " "
                    + x.totalHolding(2) + " " + x.totalHolding(3), "-1 0 0 -1");
        });
        SECTION.test("An INSTRUCTION lives in a slot with id 0..Q-1", "the ends, and one beyond each", check -> {
            DvpSettler x = Scene.allQueued(11, 1);
            check.due("status of -1, 0, 10, 11", x.status(-1) + " " + x.status(0) + " " + x.status(10) + " "
                    + x.status(11), "-1 1 1 -1");
        });
        SECTION.test("all start at 0", "of the largest object", check -> {
            DvpSettler x = new DvpSettler(8, 4, 64, 8);
            for (int p = 0; p < 8; p++) {
                check.due("cash(" + p + ")", x.cash(p), 0);
                for (int s = 0; s < 4; s++) {
                    check.due("holding(" + p + ", " + s + ")", x.holding(p, s), 0);
                }
            }
        });
        SECTION.test("so circles of trades that are each impossible alone (gridlock) can settle together", "of eight",
                check -> {
                    DvpSettler x = new DvpSettler(8, 1, 8, 1);
                    for (int p = 0; p < 8; p++) {
                        x.submit(Probe.parties(p, (p + 1) % 8), 0, 1000000, 1000000);
                    }
                    for (int id = 0; id < 8; id++) {
                        check.due("settleNow(" + id + ")", x.settleNow(id), false);
                    }
                    check.due("cycle()", x.cycle(), 8);
                    check.due("totals", x.totalCash() + " " + x.totalHolding(0), "0 0");
                });
        SECTION.test("while some participant would end negative it drops one instruction", "one broken link breaks all",
                check -> {
                    DvpSettler x = new DvpSettler(8, 1, 8, 1);
                    for (int p = 0; p < 7; p++) {
                        x.submit(Probe.parties(p, p + 1), 0, 1, 0);
                    }
                    check.due("cycle()", x.cycle(), 0);
                    check.due("the record", Probe.record(x), "[0, 1, 2, 3, 4, 5, 6]");
                });
        SECTION.test("Dropped instructions are recycled to the next cycle and are given up as FAILED after maxRecycles drops",
                "two drops of two", check -> {
                    DvpSettler x = Scene.allQueued(8, 2);
                    x.cycle();
                    check.due("status(0) after one", x.status(0), DvpSettler.QUEUED);
                    x.cycle();
                    check.due("status(0) after two", x.status(0), DvpSettler.FAILED);
                });
        SECTION.test("FAILED (4): removed by cycles maxRecycles times, given up", "with funds that come too late", check -> {
            DvpSettler x = Scene.allQueued(8, 1);
            x.cycle();
            x.fundSecurity(0, 0, 8);
            check.due("settleNow(0)", x.settleNow(0), false);
            check.due("cycle()", x.cycle(), 0);
            check.due("status(0)", x.status(0), DvpSettler.FAILED);
        });
        SECTION.test("EMPTY = 0, QUEUED = 1, SETTLED = 2, CANCELLED = 3, FAILED = 4", "the constants", check ->
                check.due("the constants", DvpSettler.EMPTY + " " + DvpSettler.QUEUED + " " + DvpSettler.SETTLED + " "
                        + DvpSettler.CANCELLED + " " + DvpSettler.FAILED, "0 1 2 3 4"));
    }

    private static void sequenceNumbers() {
        SECTION.test("the count of submissions accepted before it on this object (0, 1, 2, ...)",
                "slots that were filled out of order", check -> {
                    DvpSettler x = Scene.allQueued(8, 2);
                    x.cancel(5);
                    x.clearDone();
                    x.submit(PAIR, 0, 1, 0);
                    x.cancel(2);
                    x.clearDone();
                    x.submit(PAIR, 0, 1, 0);
                    x.cycle();
                    check.due("the record", Probe.record(x), "[2, 5, 7, 6, 4, 3, 1, 0]");
                });
        String words = "Sequence numbers are never reused, not even after clearDone";
        SECTION.test(words, "when only the last accepted is left", check -> {
            DvpSettler x = Scene.allQueued(8, 2);
            for (int id = 0; id < 7; id++) {
                x.cancel(id);
            }
            x.clearDone();
            x.submit(PAIR, 0, 1, 0);
            x.cycle();
            check.due("the record", Probe.record(x), "[0, 7]");
        });
        youngestAfter(words, 128, "more than a byte counts");
        youngestAfter(words, 256, "a counter of one byte is back at its start");
        youngestAfter(words, 32768, "more than a short counts");
        youngestAfter(words, 65536, "a counter of two bytes is back at its start");
    }

    /** Slot 1 keeps an old instruction while slot 0 is used again and again: the last one there is the youngest. */
    private static void youngestAfter(String words, int accepted, String what) {
        SECTION.test(words, what, check -> {
            DvpSettler x = new DvpSettler(2, 1, 8, 2);
            x.submit(PAIR, 0, 1, 0);
            x.submit(PAIR, 0, 1, 0);
            for (int i = 2; i < accepted; i++) {
                x.cancel(0);
                x.clearDone();
                x.submit(PAIR, 0, 1, 0);
            }
            x.cancel(0);
            x.clearDone();
            x.submit(PAIR, 0, 1, 0);
            x.cycle();
            check.due("the record", Probe.record(x), "[0, 1]");
        });
    }

    private static void largestAmounts() {
        String words = "MAX_AMOUNT = 1000000: the largest single funding amount, quantity or payment amount";
        SECTION.test(words, "of fundCash", check -> {
            check.due("MAX_AMOUNT", DvpSettler.MAX_AMOUNT, 1000000);
            check.due("a million", new DvpSettler(2, 1, 8, 1).fundCash(0, 1000000), true);
            check.due("one more", new DvpSettler(2, 1, 8, 1).fundCash(0, 1000001), false);
        });
        SECTION.test(words, "of fundSecurity", check -> {
            check.due("a million", new DvpSettler(2, 1, 8, 1).fundSecurity(0, 0, 1000000), true);
            check.due("one more", new DvpSettler(2, 1, 8, 1).fundSecurity(0, 0, 1000001), false);
        });
        SECTION.test(words, "of a quantity", check -> {
            check.due("a million", new DvpSettler(2, 1, 8, 1).submit(PAIR, 0, 1000000, 0), 0);
            check.due("one more", new DvpSettler(2, 1, 8, 1).submit(PAIR, 0, 1000001, 0), -1);
        });
        SECTION.test(words, "of a payment", check -> {
            check.due("a million", new DvpSettler(2, 1, 8, 1).submit(PAIR, 0, 1, 1000000), 0);
            check.due("one more", new DvpSettler(2, 1, 8, 1).submit(PAIR, 0, 1, 1000001), -1);
        });
    }

    private static void largestTotals() {
        String words = "MAX_TOTAL = 100000000: the largest total cash, and the largest total of each security";
        SECTION.test(words, "of cash", check -> {
            check.due("MAX_TOTAL", DvpSettler.MAX_TOTAL, 100000000);
            DvpSettler x = Scene.withTotalCash(99999999);
            check.due("fundCash(2, 1)", x.fundCash(2, 1), true);
            check.due("fundCash(1, 1)", x.fundCash(1, 1), false);
        });
        SECTION.test(words, "of every security at once", check -> {
            DvpSettler x = new DvpSettler(2, 4, 8, 1);
            for (int s = 0; s < 4; s++) {
                for (int i = 0; i < 100; i++) {
                    check.due("fundSecurity", x.fundSecurity(i % 2, s, 1000000), true);
                }
                check.due("totalHolding(" + s + ")", x.totalHolding(s), 100000000);
                check.due("one unit more", x.fundSecurity(0, s, 1), false);
            }
        });
        String range = "Arithmetic never exceeds int range: each total is kept at most MAX_TOTAL";
        SECTION.test(range, "the greatest deficits, in cash and a security", check -> greatest(check, 0, 0, 0));
        SECTION.test(range, "the greatest deficit in a security", check -> greatest(check, 100, 0, 0));
        SECTION.test(range, "the greatest deficit in cash", check -> greatest(check, 0, 100, 0));
        SECTION.test(range, "the greatest balances, and those that just cover", check -> {
            greatest(check, 100, 100, 64);
            greatest(check, 64, 64, 64);
            greatest(check, 63, 100, 63);
            greatest(check, 100, 63, 63);
        });
    }

    /** 64 of the greatest instructions, where the buyer and the seller have so many millions: as many settle as told. */
    private static void greatest(Check check, int cash, int held, int settled) {
        DvpSettler x = new DvpSettler(2, 1, 64, 1);
        for (int i = 0; i < cash; i++) {
            x.fundCash(1, 1000000);
        }
        for (int i = 0; i < held; i++) {
            x.fundSecurity(0, 0, 1000000);
        }
        for (int id = 0; id < 64; id++) {
            x.submit(PAIR, 0, 1000000, 1000000);
        }
        check.due("cycle()", x.cycle(), settled);
        check.due("cash", x.cash(0) + " " + x.cash(1), settled * 1000000 + " " + (cash - settled) * 1000000);
        check.due("holdings", x.holding(0, 0) + " " + x.holding(1, 0),
                (held - settled) * 1000000 + " " + settled * 1000000);
    }

    private static void refusedCalls() {
        String words = "A refused call (answer false or -1) changes nothing at all";
        SECTION.test(words, "fundCash", check -> Unchanged.by(check, x -> {
            check.due("fundCash(-1, 1)", x.fundCash(-1, 1), false);
            check.due("fundCash(3, 1)", x.fundCash(3, 1), false);
            check.due("fundCash(0, 0)", x.fundCash(0, 0), false);
            check.due("fundCash(0, -1)", x.fundCash(0, -1), false);
            check.due("fundCash(0, 1000001)", x.fundCash(0, 1000001), false);
        }));
        SECTION.test(words, "fundSecurity", check -> Unchanged.by(check, x -> {
            check.due("fundSecurity(-1, 0, 1)", x.fundSecurity(-1, 0, 1), false);
            check.due("fundSecurity(3, 0, 1)", x.fundSecurity(3, 0, 1), false);
            check.due("fundSecurity(0, -1, 1)", x.fundSecurity(0, -1, 1), false);
            check.due("fundSecurity(0, 2, 1)", x.fundSecurity(0, 2, 1), false);
            check.due("fundSecurity(0, 0, 0)", x.fundSecurity(0, 0, 0), false);
            check.due("fundSecurity(0, 0, 1000001)", x.fundSecurity(0, 0, 1000001), false);
        }));
        SECTION.test(words, "submit", check -> Unchanged.by(check, x -> {
            check.due("submit(-1, 0, 1, 1)", x.submit(-1, 0, 1, 1), -1);
            check.due("submit(256, 0, 1, 1)", x.submit(256, 0, 1, 1), -1);
            check.due("submit(49, 0, 1, 1)", x.submit(Probe.parties(3, 1), 0, 1, 1), -1);
            check.due("submit(19, 0, 1, 1)", x.submit(Probe.parties(1, 3), 0, 1, 1), -1);
            check.due("submit(17, 0, 1, 1)", x.submit(Probe.parties(1, 1), 0, 1, 1), -1);
            check.due("submit(1, 2, 1, 1)", x.submit(PAIR, 2, 1, 1), -1);
            check.due("submit(1, 0, 0, 1)", x.submit(PAIR, 0, 0, 1), -1);
            check.due("submit(1, 0, 1, -1)", x.submit(PAIR, 0, 1, -1), -1);
        }));
        SECTION.test(words, "submit to full slots", check -> {
            DvpSettler x = Scene.allQueued(8, 2);
            for (int i = 0; i < 10; i++) {
                check.due("submit(16, 0, 5, 5)", x.submit(Probe.parties(1, 0), 0, 5, 5), -1);
            }
            x.fundSecurity(0, 0, 8);
            check.due("cycle()", x.cycle(), 8);
            check.due("holding(1, 0)", x.holding(1, 0), 8);
        });
        SECTION.test(words, "cancel", check -> Unchanged.by(check, x -> {
            for (int id = -1; id <= 8; id++) {
                if (x.status(id) != DvpSettler.QUEUED) {
                    check.due("cancel(" + id + ")", x.cancel(id), false);
                }
            }
        }));
        SECTION.test(words, "settleNow", check -> Unchanged.by(check, x -> {
            for (int id = -1; id <= 8; id++) {
                if (x.status(id) != DvpSettler.QUEUED) {
                    check.due("settleNow(" + id + ")", x.settleNow(id), false);
                }
            }
            if (x.holding(2, 1) < 6 && x.status(Scene.QUEUED) == DvpSettler.QUEUED) {
                check.due("settleNow(4) without cover", x.settleNow(Scene.QUEUED), false);
            }
        }));
    }

    private static void getters() {
        SECTION.test("Getters change nothing", "all of them, every argument", check ->
                Unchanged.by(check, x -> State.of(x)));
    }

    private static void totals() {
        String words = "The only calls that change any total are fundCash and fundSecurity";
        SECTION.test(words, "not submit", check -> {
            DvpSettler x = Scene.everyStatus();
            x.submit(PAIR, 0, 1000000, 1000000);
            check.due("totals", totalsOf(x), "100 10 0");
        });
        SECTION.test(words, "not cancel", check -> {
            DvpSettler x = Scene.everyStatus();
            check.due("cancel(4)", x.cancel(Scene.QUEUED), true);
            check.due("totals", totalsOf(x), "100 10 0");
        });
        SECTION.test(words, "not settleNow", check -> {
            DvpSettler x = Scene.everyStatus();
            x.fundSecurity(2, 1, 6);
            check.due("settleNow(4)", x.settleNow(Scene.QUEUED), true);
            check.due("totals", totalsOf(x), "100 10 6");
        });
        SECTION.test(words, "not a cycle that settles", check -> {
            DvpSettler x = Scene.everyStatus();
            x.fundSecurity(2, 1, 6);
            check.due("cycle()", x.cycle(), 1);
            check.due("totals", totalsOf(x), "100 10 6");
        });
        SECTION.test(words, "not a cycle that removes", check -> {
            DvpSettler x = Scene.everyStatus();
            check.due("cycle()", x.cycle(), 0);
            check.due("totals", totalsOf(x), "100 10 0");
        });
        SECTION.test(words, "not clearDone", check -> {
            DvpSettler x = Scene.everyStatus();
            check.due("clearDone()", x.clearDone(), 4);
            check.due("totals", totalsOf(x), "100 10 0");
        });
        SECTION.test("the sum of the amount arguments of all fundCash calls that answered true", "refused ones do not count",
                check -> {
                    DvpSettler x = new DvpSettler(2, 1, 8, 1);
                    x.fundCash(0, 5);
                    x.fundCash(2, 6);
                    x.fundCash(1, 7);
                    x.fundCash(1, 1000001);
                    check.due("totals", totalsOf(x), "12 0 -1");
                });
        SECTION.test("the sum of the quantity arguments of all fundSecurity calls for s that answered true",
                "refused ones and those of other securities do not count", check -> {
                    DvpSettler x = new DvpSettler(2, 2, 8, 1);
                    x.fundSecurity(0, 0, 5);
                    x.fundSecurity(0, 2, 6);
                    x.fundSecurity(1, 1, 7);
                    x.fundSecurity(1, 1, -3);
                    check.due("totals", totalsOf(x), "0 5 7");
                });
    }

    private static String totalsOf(DvpSettler x) {
        return x.totalCash() + " " + x.totalHolding(0) + " " + x.totalHolding(1);
    }

    private static void balances() {
        SECTION.test("every cash(p) and holding(p, s) is at least 0", "a cycle uses up all there is", check -> {
            DvpSettler x = Scene.allQueued(64, 8);
            x.fundSecurity(0, 0, 40);
            check.due("cycle()", x.cycle(), 40);
            check.due("holdings", x.holding(0, 0) + " " + x.holding(1, 0), "0 40");
            check.due("cycle() again", x.cycle(), 0);
            check.due("holdings", x.holding(0, 0) + " " + x.holding(1, 0), "0 40");
        });
        SECTION.test("the amounts where p was seller minus the amounts where p was buyer", "one who only hands on", check -> {
            DvpSettler x = new DvpSettler(3, 1, 8, 1);
            x.fundSecurity(0, 0, 10);
            x.fundCash(2, 60);
            x.submit(Probe.parties(0, 1), 0, 10, 50);
            x.submit(Probe.parties(1, 2), 0, 10, 60);
            check.due("cycle()", x.cycle(), 2);
            check.due("cash", x.cash(0) + " " + x.cash(1) + " " + x.cash(2), "50 10 0");
            check.due("holdings", x.holding(0, 0) + " " + x.holding(1, 0) + " " + x.holding(2, 0), "0 0 10");
        });
        SECTION.test("including those whose slots clearDone has since freed", "a slot used a hundred times", check -> {
            DvpSettler x = new DvpSettler(2, 1, 8, 1);
            x.fundSecurity(0, 0, 100);
            x.fundCash(1, 300);
            for (int i = 0; i < 100; i++) {
                check.due("submit", x.submit(PAIR, 0, 1, 3), 0);
                check.due("settled", i % 2 == 0 ? x.settleNow(0) : x.cycle() == 1, true);
                check.due("clearDone()", x.clearDone(), 1);
            }
            check.due("cash", x.cash(0) + " " + x.cash(1), "300 0");
            check.due("holdings", x.holding(0, 0) + " " + x.holding(1, 0), "0 100");
        });
        oneLegMissing("No instruction ever has only one of its two legs applied");
        oneLegMissing("Both legs move together or not at all");
    }

    private static void oneLegMissing(String words) {
        SECTION.test(words, "the security is there, the cash is not", check -> {
            DvpSettler x = new DvpSettler(2, 1, 8, 8);
            x.fundSecurity(0, 0, 5);
            x.submit(PAIR, 0, 5, 5);
            movesNothing(check, x);
        });
        SECTION.test(words, "the cash is there, the security is not", check -> {
            DvpSettler x = new DvpSettler(2, 1, 8, 8);
            x.fundCash(1, 5);
            x.submit(PAIR, 0, 5, 5);
            movesNothing(check, x);
        });
    }

    private static void movesNothing(Check check, DvpSettler x) {
        Probe t = new Probe(check, x);
        t.settleNow(0, false);
        t.cycle(0, "cycleCount() 0 -> 1", "removedAt(0) -1 -> 0", "attempts(0) 0 -> 1");
    }
}
