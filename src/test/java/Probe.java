import java.util.ArrayList;
import java.util.List;
import java.util.Set;
import java.util.TreeSet;
import java.util.function.Supplier;

/**
 * Makes calls on one object. Of each call it is told the answer that is due and every change
 * that a getter may show, as "getter before -> after"; any other change is a fault.
 */
final class Probe {
    private static final int FAR = 200;

    private final Check check;
    private final DvpSettler x;
    private State last;

    Probe(Check check, DvpSettler x) {
        this.check = check;
        this.x = x;
        this.last = State.of(x);
    }

    Probe(Check check, int participants, int securities, int capacity, int maxRecycles) {
        this(check, new DvpSettler(participants, securities, capacity, maxRecycles));
    }

    static int parties(int seller, int buyer) {
        return seller * 16 + buyer;
    }

    /** The removal record, up to its first -1. */
    static String record(DvpSettler x) {
        List<Integer> ids = new ArrayList<>();
        for (int k = 0; x.removedAt(k) != -1 && k < FAR; k++) {
            ids.add(x.removedAt(k));
        }
        return ids.toString();
    }

    DvpSettler settler() {
        return x;
    }

    void fundCash(int p, int amount, boolean want, String... changes) {
        expect("fundCash(" + p + ", " + amount + ")", () -> x.fundCash(p, amount), want, changes);
    }

    void fundSecurity(int p, int s, int quantity, boolean want, String... changes) {
        expect("fundSecurity(" + p + ", " + s + ", " + quantity + ")",
                () -> x.fundSecurity(p, s, quantity), want, changes);
    }

    void submit(int parties, int security, int quantity, int amount, int want, String... changes) {
        expect("submit(" + parties + ", " + security + ", " + quantity + ", " + amount + ")",
                () -> x.submit(parties, security, quantity, amount), want, changes);
    }

    /** A submission that is due to be accepted into slot id. */
    void accepted(int id, int parties, int security, int quantity, int amount) {
        submit(parties, security, quantity, amount, id,
                "status(" + id + ") 0 -> 1", "attempts(" + id + ") -1 -> 0");
    }

    void refused(int parties, int security, int quantity, int amount) {
        submit(parties, security, quantity, amount, -1);
    }

    void cancel(int id, boolean want, String... changes) {
        expect("cancel(" + id + ")", () -> x.cancel(id), want, changes);
    }

    void settleNow(int id, boolean want, String... changes) {
        expect("settleNow(" + id + ")", () -> x.settleNow(id), want, changes);
    }

    void cycle(int want, String... changes) {
        expect("cycle()", () -> x.cycle(), want, changes);
    }

    void clearDone(int want, String... changes) {
        expect("clearDone()", () -> x.clearDone(), want, changes);
    }

    private void expect(String call, Supplier<Object> made, Object want, String... changes) {
        State before = State.of(x);
        check.due("reading every getter before " + call, last.changesTo(before).toString(), "[]");
        Object got = made.get();
        last = State.of(x);
        check.due(call, got, want);
        Set<String> due = new TreeSet<>(Set.of(changes));
        Set<String> seen = new TreeSet<>(before.changesTo(last));
        check.due("what " + call + " changed", seen, due);
    }
}
