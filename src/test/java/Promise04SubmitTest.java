import java.util.function.ToIntFunction;

public final class Promise04SubmitTest {
    private static final Section SECTION = new Section("Promise 4: submit");
    private static final int PAIR = Probe.parties(0, 1);

    public static void main(String[] args) {
        parties();
        sellersAndBuyers();
        securities();
        quantities();
        amounts();
        slots();
        refusals();
        acceptance();
        SECTION.finish();
    }

    private static void parties() {
        String words = "0 <= parties <= 255";
        SECTION.test(words, "parties is too small", check -> {
            Probe t = new Probe(check, 8, 2, 8, 2);
            for (int parties : Range.below(0)) {
                t.refused(parties, 0, 1, 1);
            }
            // The last eight bits of these are a good pair.
            t.refused(PAIR - 256, 0, 1, 1);
            t.refused(Integer.MIN_VALUE + PAIR, 0, 1, 1);
        });
        SECTION.test(words, "parties is too large", check -> {
            Probe t = new Probe(check, 8, 2, 8, 2);
            for (int parties : Range.above(255)) {
                t.refused(parties, 0, 1, 1);
            }
            t.refused(PAIR + 256, 0, 1, 1);
            t.refused(PAIR + 65536, 0, 1, 1);
        });
        SECTION.test(words, "every value about the range, for every P", check -> {
            for (int participants = 2; participants <= 8; participants++) {
                for (int parties = -300; parties <= 600; parties++) {
                    DvpSettler x = new DvpSettler(participants, 1, 8, 1);
                    check.due("submit(" + parties + ", 0, 1, 1) among " + participants, x.submit(parties, 0, 1, 1),
                            isPair(parties, participants) ? 0 : -1);
                }
            }
        });
    }

    private static boolean isPair(int parties, int participants) {
        for (int seller = 0; seller < participants; seller++) {
            for (int buyer = 0; buyer < participants; buyer++) {
                if (seller != buyer && parties == seller * 16 + buyer) {
                    return true;
                }
            }
        }
        return false;
    }

    private static void sellersAndBuyers() {
        SECTION.test("seller < P", "the last participant sells, the one behind does not", check -> {
            Probe t = new Probe(check, 3, 1, 8, 2);
            t.accepted(0, Probe.parties(2, 0), 0, 1, 1);
            t.refused(Probe.parties(3, 0), 0, 1, 1);
            t.refused(Probe.parties(15, 0), 0, 1, 1);
        });
        SECTION.test("buyer < P", "the last participant buys, the one behind does not", check -> {
            Probe t = new Probe(check, 3, 1, 8, 2);
            t.accepted(0, Probe.parties(0, 2), 0, 1, 1);
            t.refused(Probe.parties(0, 3), 0, 1, 1);
            t.refused(Probe.parties(0, 15), 0, 1, 1);
        });
        SECTION.test("seller < P", "the last two of eight, and the ones behind", check -> {
            Probe t = new Probe(check, 8, 1, 8, 2);
            t.accepted(0, Probe.parties(7, 6), 0, 1, 1);
            t.accepted(1, Probe.parties(6, 7), 0, 1, 1);
            t.refused(Probe.parties(8, 7), 0, 1, 1);
            t.refused(Probe.parties(7, 8), 0, 1, 1);
            t.refused(Probe.parties(15, 15), 0, 1, 1);
        });
        SECTION.test("seller != buyer", "nobody deals with himself", check -> {
            Probe t = new Probe(check, 8, 1, 8, 2);
            for (int p = 0; p < 8; p++) {
                t.refused(Probe.parties(p, p), 0, 1, 1);
            }
        });
        SECTION.test("parties encodes seller * 16 + buyer", "every pair of eight delivers and pays", check -> {
            for (int seller = 0; seller < 8; seller++) {
                for (int buyer = 0; buyer < 8; buyer++) {
                    if (seller != buyer) {
                        isPairOf(check, seller, buyer);
                    }
                }
            }
        });
        SECTION.test("seller = parties / 16 and buyer = parties % 16", "who delivers and who pays", check -> {
            DvpSettler x = new DvpSettler(8, 1, 8, 2);
            x.fundSecurity(7, 0, 4);
            x.fundCash(2, 5);
            Probe t = new Probe(check, x);
            t.accepted(0, 7 * 16 + 2, 0, 4, 5);
            t.settleNow(0, true, "holding(7, 0) 4 -> 0", "holding(2, 0) 0 -> 4", "cash(2) 5 -> 0", "cash(7) 0 -> 5",
                    "status(0) 1 -> 2", "settledCycle(0) -1 -> 0");
        });
    }

    private static void isPairOf(Check check, int seller, int buyer) {
        DvpSettler x = new DvpSettler(8, 1, 8, 2);
        x.fundSecurity(seller, 0, 4);
        x.fundCash(buyer, 5);
        x.submit(seller * 16 + buyer, 0, 4, 5);
        check.due("settleNow of " + seller + " to " + buyer, x.settleNow(0), true);
        check.due("holding of " + buyer, x.holding(buyer, 0), 4);
        check.due("cash of " + seller, x.cash(seller), 5);
    }

    private static void securities() {
        String words = "0 <= security < S";
        SECTION.each(words, "security is too small", Range.below(0), Scene::fresh,
                (t, security) -> t.refused(PAIR, security, 1, 1));
        SECTION.each(words, "security is too large", Range.above(1), Scene::fresh,
                (t, security) -> t.refused(PAIR, security, 1, 1));
        SECTION.test(words, "the first and the last of each S, and the one behind", check -> {
            for (int securities = 1; securities <= 4; securities++) {
                Probe t = new Probe(check, 3, securities, 8, 2);
                t.accepted(0, PAIR, 0, 1, 1);
                t.accepted(1, PAIR, securities - 1, 1, 1);
                t.refused(PAIR, securities, 1, 1);
            }
        });
    }

    private static void quantities() {
        String words = "1 <= quantity <= MAX_AMOUNT";
        SECTION.each(words, "0 and less is too small", Range.below(1), Scene::fresh,
                (t, quantity) -> t.refused(PAIR, 0, quantity, 1));
        SECTION.each(words, "more than a million is too large", Range.above(1000000), Scene::fresh,
                (t, quantity) -> t.refused(PAIR, 0, quantity, 1));
        SECTION.test(words, "1 is the least", check -> moves(check, 1, 3));
        SECTION.test(words, "a million is the greatest", check -> moves(check, 1000000, 3));
    }

    private static void amounts() {
        String words = "0 <= amount <= MAX_AMOUNT (an amount of 0 is accepted)";
        SECTION.each(words, "less than 0 is too small", Range.below(0), Scene::fresh,
                (t, amount) -> t.refused(PAIR, 0, 1, amount));
        SECTION.each(words, "more than a million is too large", Range.above(1000000), Scene::fresh,
                (t, amount) -> t.refused(PAIR, 0, 1, amount));
        SECTION.test(words, "0 is accepted", check -> moves(check, 3, 0));
        SECTION.test(words, "1 is accepted", check -> moves(check, 3, 1));
        SECTION.test(words, "a million is the greatest", check -> moves(check, 3, 1000000));
    }

    /** The instruction is accepted and settles with just this quantity and amount. */
    private static void moves(Check check, int quantity, int amount) {
        DvpSettler x = new DvpSettler(2, 1, 8, 2);
        x.fundSecurity(0, 0, 1000000);
        x.fundCash(1, 1000000);
        new Probe(check, x).accepted(0, PAIR, 0, quantity, amount);
        check.due("settleNow(0)", x.settleNow(0), true);
        check.due("holding(1, 0)", x.holding(1, 0), quantity);
        check.due("cash(0)", x.cash(0), amount);
    }

    private static void slots() {
        String words = "some slot is EMPTY";
        SECTION.test(words, "the last slot is used, and then all are full", check -> {
            for (int capacity = 8; capacity <= 64; capacity += 14) {
                Probe t = new Probe(check, 2, 1, capacity, 2);
                for (int id = 0; id < capacity; id++) {
                    t.accepted(id, PAIR, 0, 1, 0);
                }
                t.refused(PAIR, 0, 1, 0);
            }
        });
        SECTION.test(words, "a cancelled slot is not empty", check -> {
            DvpSettler x = Scene.allQueued(8, 2);
            x.cancel(3);
            new Probe(check, x).refused(PAIR, 0, 1, 0);
        });
        SECTION.test(words, "a settled slot is not empty", check -> {
            DvpSettler x = Scene.allQueued(8, 2);
            x.fundSecurity(0, 0, 1);
            x.settleNow(3);
            new Probe(check, x).refused(PAIR, 0, 1, 0);
        });
        SECTION.test(words, "a failed slot is not empty", check -> {
            DvpSettler x = Scene.allQueued(8, 1);
            x.cycle();
            new Probe(check, x).refused(PAIR, 0, 1, 0);
        });
        SECTION.test(words, "a freed slot is empty", check -> {
            DvpSettler x = Scene.allQueued(8, 2);
            x.cancel(7);
            x.clearDone();
            Probe t = new Probe(check, x);
            t.accepted(7, PAIR, 0, 1, 0);
            t.refused(PAIR, 0, 1, 0);
        });
        SECTION.test("the lowest-numbered EMPTY slot receives the instruction", "of several freed ones", check -> {
            DvpSettler x = Scene.allQueued(8, 2);
            x.cancel(6);
            x.cancel(1);
            x.cancel(4);
            x.clearDone();
            Probe t = new Probe(check, x);
            t.accepted(1, PAIR, 0, 1, 0);
            t.accepted(4, PAIR, 0, 1, 0);
            t.accepted(6, PAIR, 0, 1, 0);
        });
        SECTION.test("the lowest-numbered EMPTY slot receives the instruction", "slots in use are passed over", check ->
                new Probe(check, Scene.everyStatus()).accepted(Scene.EMPTY, PAIR, 0, 1, 0));
    }

    private static void refusals() {
        SECTION.test("If any fails the answer is -1 and nothing changes", "when all of them fail", check ->
                new Probe(check, Scene.allQueued(8, 2)).refused(-1, -1, 0, -1));
        SECTION.test("If any fails the answer is -1 and nothing changes", "each of them, with slots in every status",
                check -> {
                    Probe t = new Probe(check, Scene.everyStatus());
                    t.refused(256, 0, 1, 1);
                    t.refused(Probe.parties(3, 1), 0, 1, 1);
                    t.refused(Probe.parties(1, 3), 0, 1, 1);
                    t.refused(Probe.parties(1, 1), 0, 1, 1);
                    t.refused(PAIR, 2, 1, 1);
                    t.refused(PAIR, 0, 0, 1);
                    t.refused(PAIR, 0, 1, -1);
                });
        String words = "in particular the sequence counter does not advance";
        orderStays(words, "parties refused", x -> x.submit(256, 0, 1, 0));
        orderStays(words, "seller refused", x -> x.submit(Probe.parties(2, 1), 0, 1, 0));
        orderStays(words, "buyer refused", x -> x.submit(Probe.parties(1, 2), 0, 1, 0));
        orderStays(words, "a deal with oneself refused", x -> x.submit(Probe.parties(1, 1), 0, 1, 0));
        orderStays(words, "security refused", x -> x.submit(PAIR, 1, 1, 0));
        orderStays(words, "quantity refused", x -> x.submit(PAIR, 0, 0, 0));
        orderStays(words, "amount refused", x -> x.submit(PAIR, 0, 1, -1));
        SECTION.test(words, "full slots", check -> {
            DvpSettler x = Scene.allQueued(8, 2);
            check.due("submit to full slots", x.submit(PAIR, 0, 1, 0), -1);
            x.cancel(2);
            x.clearDone();
            x.submit(PAIR, 0, 1, 0);
            x.cycle();
            check.due("the record", Probe.record(x), "[2, 7, 6, 5, 4, 3, 1, 0]");
        });
    }

    /** The counter itself cannot be read; what is seen is that what is accepted next is still the youngest. */
    private static void orderStays(String words, String what, ToIntFunction<DvpSettler> refused) {
        SECTION.test(words, what, check -> {
            DvpSettler x = Scene.allQueued(8, 2);
            x.cancel(2);
            x.clearDone();
            check.due("the refused submit", refused.applyAsInt(x), -1);
            x.submit(PAIR, 0, 1, 0);
            x.cycle();
            check.due("the record", Probe.record(x), "[2, 7, 6, 5, 4, 3, 1, 0]");
        });
    }

    private static void acceptance() {
        String words = "with status QUEUED, attempts 0, the next sequence number, and settled cycle -1";
        SECTION.test(words, "where an instruction failed before", check -> {
            DvpSettler x = Scene.allQueued(8, 1);
            x.cycle();
            x.clearDone();
            new Probe(check, x).accepted(0, PAIR, 0, 1, 0);
        });
        SECTION.test(words, "where an instruction settled before, it is not settled when cancelled", check -> {
            DvpSettler x = Scene.everyStatus();
            x.clearDone();
            Probe t = new Probe(check, x);
            t.accepted(0, PAIR, 0, 1, 0);
            t.accepted(1, PAIR, 0, 1, 0);
            t.cancel(1, true, "status(1) 1 -> 3");
        });
        SECTION.test(words, "where another instruction was before, only the new one settles", check -> {
            DvpSettler x = Scene.everyStatus();
            x.clearDone();
            Probe t = new Probe(check, x);
            t.accepted(0, Probe.parties(1, 0), 0, 7, 50);
            t.settleNow(0, true, "holding(1, 0) 7 -> 0", "holding(0, 0) 3 -> 10", "cash(0) 50 -> 0",
                    "cash(1) 50 -> 100", "status(0) 1 -> 2", "settledCycle(0) -1 -> 0");
        });
        SECTION.test("the answer is the slot id", "of every slot of the largest object", check -> {
            Probe t = new Probe(check, 2, 1, 64, 2);
            for (int id = 0; id < 64; id++) {
                t.accepted(id, PAIR, 0, 1, 0);
            }
        });
        SECTION.test("the sequence counter advances by 1", "the later submission is removed first", check -> {
            DvpSettler x = Scene.allQueued(8, 2);
            x.cycle();
            check.due("the record", Probe.record(x), "[7, 6, 5, 4, 3, 2, 1, 0]");
        });
        SECTION.test("No balance changes, no other slot changes, the cycle count and the removal record are unchanged",
                "slots in every status", check -> {
                    Probe t = new Probe(check, Scene.everyStatus());
                    t.accepted(5, PAIR, 0, 3, 50);
                    t.accepted(6, Probe.parties(1, 0), 1, 1000000, 1000000);
                    t.accepted(7, Probe.parties(2, 1), 0, 1, 0);
                });
    }
}
