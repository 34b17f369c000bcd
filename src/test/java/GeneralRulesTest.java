public final class GeneralRulesTest {
    private static final Section SECTION = new Section("What it is");
    private static final int PAIR = Probe.parties(0, 1);

    public static void main(String[] args) {
        refusedCalls();
        getters();
        totals();
        intRange();
        balances();
        SECTION.finish();
    }

    private static void refusedCalls() {
        String words = "A refused call (answer false or -1) changes nothing at all";
        SECTION.test(words, "fundCash", check -> Unchanged.by(check, x -> {
            check.due("fundCash(-1, 1)", x.fundCash(-1, 1), false);
            check.due("fundCash(3, 1)", x.fundCash(3, 1), false);
            check.due("fundCash(0, 0)", x.fundCash(0, 0), false);
            check.due("fundCash(0, -1)", x.fundCash(0, -1), false);
            check.due("fundCash(0, 1000001)", x.fundCash(0, 1000001), false);
        }));
        SECTION.test(words, "fundSecurity", check -> Unchanged.by(check, x -> {
            check.due("fundSecurity(-1, 0, 1)", x.fundSecurity(-1, 0, 1), false);
            check.due("fundSecurity(3, 0, 1)", x.fundSecurity(3, 0, 1), false);
            check.due("fundSecurity(0, -1, 1)", x.fundSecurity(0, -1, 1), false);
            check.due("fundSecurity(0, 2, 1)", x.fundSecurity(0, 2, 1), false);
            check.due("fundSecurity(0, 0, 0)", x.fundSecurity(0, 0, 0), false);
            check.due("fundSecurity(0, 0, 1000001)", x.fundSecurity(0, 0, 1000001), false);
        }));
        SECTION.test(words, "submit", check -> Unchanged.by(check, x -> {
            check.due("submit(-1, 0, 1, 1)", x.submit(-1, 0, 1, 1), -1);
            check.due("submit(256, 0, 1, 1)", x.submit(256, 0, 1, 1), -1);
            check.due("submit(49, 0, 1, 1)", x.submit(Probe.parties(3, 1), 0, 1, 1), -1);
            check.due("submit(19, 0, 1, 1)", x.submit(Probe.parties(1, 3), 0, 1, 1), -1);
            check.due("submit(17, 0, 1, 1)", x.submit(Probe.parties(1, 1), 0, 1, 1), -1);
            check.due("submit(1, 2, 1, 1)", x.submit(PAIR, 2, 1, 1), -1);
            check.due("submit(1, 0, 0, 1)", x.submit(PAIR, 0, 0, 1), -1);
            check.due("submit(1, 0, 1, -1)", x.submit(PAIR, 0, 1, -1), -1);
        }));
        SECTION.test(words, "submit to full slots", check -> {
            DvpSettler x = Scene.allQueued(8, 2);
            for (int i = 0; i < 10; i++) {
                check.due("submit(16, 0, 5, 5)", x.submit(Probe.parties(1, 0), 0, 5, 5), -1);
            }
            x.fundSecurity(0, 0, 8);
            check.due("cycle()", x.cycle(), 8);
            check.due("holding(1, 0)", x.holding(1, 0), 8);
        });
        SECTION.test(words, "cancel", check -> Unchanged.by(check, x -> {
            for (int id = -1; id <= 8; id++) {
                if (x.status(id) != DvpSettler.QUEUED) {
                    check.due("cancel(" + id + ")", x.cancel(id), false);
                }
            }
        }));
        SECTION.test(words, "settleNow", check -> Unchanged.by(check, x -> {
            for (int id = -1; id <= 8; id++) {
                if (x.status(id) != DvpSettler.QUEUED) {
                    check.due("settleNow(" + id + ")", x.settleNow(id), false);
                }
            }
            if (x.holding(2, 1) < 6 && x.status(Scene.QUEUED) == DvpSettler.QUEUED) {
                check.due("settleNow(4) without cover", x.settleNow(Scene.QUEUED), false);
            }
        }));
    }

    private static void getters() {
        SECTION.test("Getters change nothing", "all of them, every argument", check ->
                Unchanged.by(check, x -> State.of(x)));
    }

    private static void totals() {
        String words = "The only calls that change any total are fundCash and fundSecurity";
        SECTION.test(words, "not submit", check -> {
            DvpSettler x = Scene.everyStatus();
            x.submit(PAIR, 0, 1000000, 1000000);
            check.due("totals", totalsOf(x), "100 10 0");
        });
        SECTION.test(words, "not cancel", check -> {
            DvpSettler x = Scene.everyStatus();
            check.due("cancel(4)", x.cancel(Scene.QUEUED), true);
            check.due("totals", totalsOf(x), "100 10 0");
        });
        SECTION.test(words, "not settleNow", check -> {
            DvpSettler x = Scene.everyStatus();
            x.fundSecurity(2, 1, 6);
            check.due("settleNow(4)", x.settleNow(Scene.QUEUED), true);
            check.due("totals", totalsOf(x), "100 10 6");
        });
        SECTION.test(words, "not a cycle that settles", check -> {
            DvpSettler x = Scene.everyStatus();
            x.fundSecurity(2, 1, 6);
            check.due("cycle()", x.cycle(), 1);
            check.due("totals", totalsOf(x), "100 10 6");
        });
        SECTION.test(words, "not a cycle that removes", check -> {
            DvpSettler x = Scene.everyStatus();
            check.due("cycle()", x.cycle(), 0);
            check.due("totals", totalsOf(x), "100 10 0");
        });
        SECTION.test(words, "not clearDone", check -> {
            DvpSettler x = Scene.everyStatus();
            check.due("clearDone()", x.clearDone(), 4);
            check.due("totals", totalsOf(x), "100 10 0");
        });
        SECTION.test("the sum of the amount arguments of all fundCash calls that answered true", "refused ones do not count",
                check -> {
                    DvpSettler x = new DvpSettler(2, 1, 8, 1);
                    x.fundCash(0, 5);
                    x.fundCash(2, 6);
                    x.fundCash(1, 7);
                    x.fundCash(1, 1000001);
                    check.due("totals", totalsOf(x), "12 0 -1");
                });
        SECTION.test("the sum of the quantity arguments of all fundSecurity calls for s that answered true",
                "refused ones and those of other securities do not count", check -> {
                    DvpSettler x = new DvpSettler(2, 2, 8, 1);
                    x.fundSecurity(0, 0, 5);
                    x.fundSecurity(0, 2, 6);
                    x.fundSecurity(1, 1, 7);
                    x.fundSecurity(1, 1, -3);
                    check.due("totals", totalsOf(x), "0 5 7");
                });
    }

    private static String totalsOf(DvpSettler x) {
        return x.totalCash() + " " + x.totalHolding(0) + " " + x.totalHolding(1);
    }

    private static void intRange() {
        String range = "Arithmetic never exceeds int range: each total is kept at most MAX_TOTAL";
        SECTION.test(range, "the greatest deficits, in cash and a security", check -> greatest(check, 0, 0, 0));
        SECTION.test(range, "the greatest deficit in a security", check -> greatest(check, 100, 0, 0));
        SECTION.test(range, "the greatest deficit in cash", check -> greatest(check, 0, 100, 0));
        SECTION.test(range, "the greatest balances, and those that just cover", check -> {
            greatest(check, 100, 100, 64);
            greatest(check, 64, 64, 64);
            greatest(check, 63, 100, 63);
            greatest(check, 100, 63, 63);
        });
    }

    /** 64 of the greatest instructions, where the buyer and the seller have so many millions: as many settle as told. */
    private static void greatest(Check check, int cash, int held, int settled) {
        DvpSettler x = new DvpSettler(2, 1, 64, 1);
        for (int i = 0; i < cash; i++) {
            x.fundCash(1, 1000000);
        }
        for (int i = 0; i < held; i++) {
            x.fundSecurity(0, 0, 1000000);
        }
        for (int id = 0; id < 64; id++) {
            x.submit(PAIR, 0, 1000000, 1000000);
        }
        check.due("cycle()", x.cycle(), settled);
        check.due("cash", x.cash(0) + " " + x.cash(1), settled * 1000000 + " " + (cash - settled) * 1000000);
        check.due("holdings", x.holding(0, 0) + " " + x.holding(1, 0),
                (held - settled) * 1000000 + " " + settled * 1000000);
    }

    private static void balances() {
        SECTION.test("every cash(p) and holding(p, s) is at least 0", "a cycle uses up all there is", check -> {
            DvpSettler x = Scene.allQueued(64, 8);
            x.fundSecurity(0, 0, 40);
            check.due("cycle()", x.cycle(), 40);
            check.due("holdings", x.holding(0, 0) + " " + x.holding(1, 0), "0 40");
            check.due("cycle() again", x.cycle(), 0);
            check.due("holdings", x.holding(0, 0) + " " + x.holding(1, 0), "0 40");
        });
        SECTION.test("the amounts where p was seller minus the amounts where p was buyer", "one who only hands on", check -> {
            DvpSettler x = new DvpSettler(3, 1, 8, 1);
            x.fundSecurity(0, 0, 10);
            x.fundCash(2, 60);
            x.submit(Probe.parties(0, 1), 0, 10, 50);
            x.submit(Probe.parties(1, 2), 0, 10, 60);
            check.due("cycle()", x.cycle(), 2);
            check.due("cash", x.cash(0) + " " + x.cash(1) + " " + x.cash(2), "50 10 0");
            check.due("holdings", x.holding(0, 0) + " " + x.holding(1, 0) + " " + x.holding(2, 0), "0 0 10");
        });
        SECTION.test("cash(p) equals the cash funded to p plus, over all instructions that ever settled on this object",
                "funded, settled alone, settled in a cycle, and what never settled", check -> {
                    DvpSettler x = tradedBothWays();
                    // 0 sold for 30 and 7; 1 bought for 30 and sold for 11; 2 bought for 7 and 11.
                    check.due("cash", x.cash(0) + " " + x.cash(1) + " " + x.cash(2), "37 81 82");
                });
        SECTION.test("holding(p, s) equals the quantity of s funded to p plus the quantities of such instructions of s"
                + " where p was buyer minus those where p was seller", "each security by itself", check -> {
                    DvpSettler x = tradedBothWays();
                    check.due("security 0", x.holding(0, 0) + " " + x.holding(1, 0) + " " + x.holding(2, 0), "4 4 2");
                    check.due("security 1", x.holding(0, 1) + " " + x.holding(1, 1) + " " + x.holding(2, 1), "3 0 7");
                });
        SECTION.test("including those whose slots clearDone has since freed", "a slot used a hundred times", check -> {
            DvpSettler x = new DvpSettler(2, 1, 8, 1);
            x.fundSecurity(0, 0, 100);
            x.fundCash(1, 300);
            for (int i = 0; i < 100; i++) {
                check.due("submit", x.submit(PAIR, 0, 1, 3), 0);
                check.due("settled", i % 2 == 0 ? x.settleNow(0) : x.cycle() == 1, true);
                check.due("clearDone()", x.clearDone(), 1);
            }
            check.due("cash", x.cash(0) + " " + x.cash(1), "300 0");
            check.due("holdings", x.holding(0, 0) + " " + x.holding(1, 0), "0 100");
        });
        oneLegMissing("No instruction ever has only one of its two legs applied");
        oneLegMissing("Both legs move together or not at all");
    }

    /** One sale settled alone and freed, two settled in a cycle, one cancelled and one failed. */
    private static DvpSettler tradedBothWays() {
        DvpSettler x = new DvpSettler(3, 2, 8, 1);
        x.fundCash(1, 100);
        x.fundCash(2, 100);
        x.fundSecurity(0, 0, 10);
        x.fundSecurity(0, 1, 10);
        x.submit(PAIR, 0, 6, 30);
        x.settleNow(0);
        x.clearDone();
        x.submit(PAIR, 0, 1, 1);
        x.cancel(0);
        x.submit(Probe.parties(0, 2), 1, 7, 7);
        x.submit(Probe.parties(1, 2), 0, 2, 11);
        x.submit(Probe.parties(1, 2), 1, 1, 1);
        x.cycle();
        return x;
    }

    private static void oneLegMissing(String words) {
        SECTION.test(words, "the security is there, the cash is not", check -> {
            DvpSettler x = new DvpSettler(2, 1, 8, 8);
            x.fundSecurity(0, 0, 5);
            x.submit(PAIR, 0, 5, 5);
            movesNothing(check, x);
        });
        SECTION.test(words, "the cash is there, the security is not", check -> {
            DvpSettler x = new DvpSettler(2, 1, 8, 8);
            x.fundCash(1, 5);
            x.submit(PAIR, 0, 5, 5);
            movesNothing(check, x);
        });
    }

    private static void movesNothing(Check check, DvpSettler x) {
        Probe t = new Probe(check, x);
        t.settleNow(0, false);
        t.cycle(0, "cycleCount() 0 -> 1", "removedAt(0) -1 -> 0", "attempts(0) 0 -> 1");
    }
}
