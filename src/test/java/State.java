import java.util.ArrayList;
import java.util.LinkedHashMap;
import java.util.List;
import java.util.Map;

/** All that the getters answer at one moment, arguments out of range included. */
final class State {
    private static final int[] PARTICIPANTS = {Integer.MIN_VALUE, -1, 0, 1, 2, 3, 4, 5, 6, 7, 8, 16, Integer.MAX_VALUE};
    private static final int[] SECURITIES = {Integer.MIN_VALUE, -1, 0, 1, 2, 3, 4, 5, Integer.MAX_VALUE};
    private static final int LAST_SLOT_READ = 66;

    private final Map<String, Integer> answers = new LinkedHashMap<>();

    static State of(DvpSettler x) {
        State state = new State();
        state.readBalances(x);
        state.readSlot(x, Integer.MIN_VALUE);
        for (int id = -2; id <= LAST_SLOT_READ; id++) {
            state.readSlot(x, id);
        }
        state.readSlot(x, Integer.MAX_VALUE);
        state.answers.put("cycleCount()", x.cycleCount());
        return state;
    }

    private void readBalances(DvpSettler x) {
        answers.put("totalCash()", x.totalCash());
        for (int p : PARTICIPANTS) {
            answers.put("cash(" + p + ")", x.cash(p));
            for (int s : SECURITIES) {
                answers.put("holding(" + p + ", " + s + ")", x.holding(p, s));
            }
        }
        for (int s : SECURITIES) {
            answers.put("totalHolding(" + s + ")", x.totalHolding(s));
        }
    }

    private void readSlot(DvpSettler x, int id) {
        answers.put("status(" + id + ")", x.status(id));
        answers.put("attempts(" + id + ")", x.attempts(id));
        answers.put("settledCycle(" + id + ")", x.settledCycle(id));
        answers.put("removedAt(" + id + ")", x.removedAt(id));
    }

    Map<String, Integer> answers() {
        return answers;
    }

    /** What differs in the later state, each as "getter before -> after". */
    List<String> changesTo(State later) {
        List<String> changes = new ArrayList<>();
        for (Map.Entry<String, Integer> answer : answers.entrySet()) {
            Integer after = later.answers.get(answer.getKey());
            if (!answer.getValue().equals(after)) {
                changes.add(answer.getKey() + " " + answer.getValue() + " -> " + after);
            }
        }
        return changes;
    }
}
