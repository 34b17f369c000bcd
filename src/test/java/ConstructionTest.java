import java.util.Map;

/** Promise 1, and what promises 9 to 17 answer on a new object. */
public final class ConstructionTest {
    private static final Check CHECK = new Check("construction");
    private static final int MIN = Integer.MIN_VALUE;
    private static final int MAX = Integer.MAX_VALUE;

    public static void main(String[] args) {
        argumentsAreClamped();
        newObjectsAnswerAsDue();
        objectsAreApart();
        CHECK.finish();
    }

    private static void argumentsAreClamped() {
        int[] participants = {MIN, 2, -1, 2, 0, 2, 1, 2, 2, 2, 3, 3, 7, 7, 8, 8, 9, 8, 64, 8, MAX, 8};
        int[] securities = {MIN, 1, -1, 1, 0, 1, 1, 1, 2, 2, 3, 3, 4, 4, 5, 4, 64, 4, MAX, 4};
        int[] capacities = {MIN, 8, -1, 8, 0, 8, 7, 8, 8, 8, 9, 9, 63, 63, 64, 64, 65, 64, 1000, 64, MAX, 64};
        int[] recycles = {MIN, 1, -1, 1, 0, 1, 1, 1, 2, 2, 5, 5, 7, 7, 8, 8, 9, 8, 64, 8, MAX, 8};
        for (int i = 0; i < participants.length; i += 2) {
            sizesAre(new DvpSettler(participants[i], 2, 10, 2), participants[i + 1], 2, 10, 2);
        }
        for (int i = 0; i < securities.length; i += 2) {
            sizesAre(new DvpSettler(3, securities[i], 10, 2), 3, securities[i + 1], 10, 2);
        }
        for (int i = 0; i < capacities.length; i += 2) {
            sizesAre(new DvpSettler(3, 2, capacities[i], 2), 3, 2, capacities[i + 1], 2);
        }
        for (int i = 0; i < recycles.length; i += 2) {
            sizesAre(new DvpSettler(3, 2, 10, recycles[i]), 3, 2, 10, recycles[i + 1]);
        }
        sizesAre(new DvpSettler(MIN, MIN, MIN, MIN), 2, 1, 8, 1);
        sizesAre(new DvpSettler(MAX, MAX, MAX, MAX), 8, 4, 64, 8);
    }

    private static void sizesAre(DvpSettler x, int participants, int securities, int capacity, int maxRecycles) {
        String sizes = " with sizes " + participants + " " + securities + " " + capacity + " " + maxRecycles;
        allIsZero(x, participants, securities, capacity, sizes);
        CHECK.due("fundCash(P - 1, 1)" + sizes, x.fundCash(participants - 1, 1), true);
        CHECK.due("fundCash(P, 1)" + sizes, x.fundCash(participants, 1), false);
        CHECK.due("fundSecurity(0, S - 1, 1)" + sizes, x.fundSecurity(0, securities - 1, 1), true);
        CHECK.due("fundSecurity(0, S, 1)" + sizes, x.fundSecurity(0, securities, 1), false);
        for (int id = 0; id < capacity; id++) {
            CHECK.due("submission " + id + sizes, x.submit(1, 0, 1000, 0), id);
        }
        CHECK.due("one submission more" + sizes, x.submit(1, 0, 1000, 0), -1);
        for (int c = 1; c <= maxRecycles; c++) {
            CHECK.due("status before cycle " + c + sizes, x.status(capacity - 1), DvpSettler.QUEUED);
            CHECK.due("cycle " + c + sizes, x.cycle(), 0);
            CHECK.due("attempts after cycle " + c + sizes, x.attempts(capacity - 1), c);
        }
        CHECK.due("status after R cycles" + sizes, x.status(capacity - 1), DvpSettler.FAILED);
    }

    private static void allIsZero(DvpSettler x, int participants, int securities, int capacity, String sizes) {
        for (Map.Entry<String, Integer> answer : State.of(x).answers().entrySet()) {
            String getter = answer.getKey();
            boolean inRange = getter.equals("totalCash()") || getter.equals("cycleCount()");
            for (int p = 0; p < participants; p++) {
                inRange |= getter.equals("cash(" + p + ")");
                for (int s = 0; s < securities; s++) {
                    inRange |= getter.equals("holding(" + p + ", " + s + ")");
                    inRange |= getter.equals("totalHolding(" + s + ")");
                }
            }
            for (int id = 0; id < capacity; id++) {
                inRange |= getter.equals("status(" + id + ")");
            }
            CHECK.due(getter + " of a new object" + sizes, answer.getValue(), inRange ? 0 : -1);
        }
    }

    private static void newObjectsAnswerAsDue() {
        Probe t = new Probe(CHECK, 2, 1, 8, 1);
        t.cancel(0, false);
        t.settleNow(0, false);
        t.clearDone(0);
        t.cycle(0, "cycleCount() 0 -> 1");
    }

    private static void objectsAreApart() {
        DvpSettler one = new DvpSettler(3, 2, 8, 2);
        DvpSettler other = new DvpSettler(3, 2, 8, 2);
        State before = State.of(other);
        one.fundCash(0, 5);
        one.fundSecurity(1, 1, 5);
        one.submit(1, 0, 5, 5);
        one.cycle();
        CHECK.due("calls on one object change another", before.changesTo(State.of(other)).toString(), "[]");
    }
}
