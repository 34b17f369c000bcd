import java.util.ArrayList;
import java.util.LinkedHashMap;
import java.util.List;
import java.util.Map;
import java.util.function.IntUnaryOperator;

/** What getters answer at one moment, arguments out of range included. */
final class State {
    static final List<String> GETTERS = List.of("totalCash", "cash", "holding", "totalHolding", "status", "attempts",
            "settledCycle", "removedAt", "cycleCount");

    private static final int[] PARTICIPANTS = {Integer.MIN_VALUE, -1, 0, 1, 2, 3, 4, 5, 6, 7, 8, 16, Integer.MAX_VALUE};
    private static final int[] SECURITIES = {Integer.MIN_VALUE, -1, 0, 1, 2, 3, 4, 5, Integer.MAX_VALUE};
    private static final int LAST_SLOT_READ = 66;

    private final Map<String, Integer> answers = new LinkedHashMap<>();

    static State of(DvpSettler x) {
        State state = new State();
        for (String getter : GETTERS) {
            state.read(x, getter);
        }
        return state;
    }

    /** The answers of one getter alone, so that no other one is called. */
    static State of(DvpSettler x, String getter) {
        State state = new State();
        state.read(x, getter);
        return state;
    }

    private void read(DvpSettler x, String getter) {
        switch (getter) {
            case "totalCash" -> answers.put("totalCash()", x.totalCash());
            case "cash" -> readEach(getter, PARTICIPANTS, x::cash);
            case "holding" -> readHoldings(x);
            case "totalHolding" -> readEach(getter, SECURITIES, x::totalHolding);
            case "status" -> readEach(getter, slots(), x::status);
            case "attempts" -> readEach(getter, slots(), x::attempts);
            case "settledCycle" -> readEach(getter, slots(), x::settledCycle);
            case "removedAt" -> readEach(getter, slots(), x::removedAt);
            default -> answers.put("cycleCount()", x.cycleCount());
        }
    }

    private static int[] slots() {
        int[] slots = new int[LAST_SLOT_READ + 5];
        for (int i = 0; i < slots.length; i++) {
            slots[i] = i - 2;
        }
        slots[0] = Integer.MIN_VALUE;
        slots[slots.length - 1] = Integer.MAX_VALUE;
        return slots;
    }

    private void readEach(String getter, int[] arguments, IntUnaryOperator answer) {
        for (int argument : arguments) {
            answers.put(getter + "(" + argument + ")", answer.applyAsInt(argument));
        }
    }

    private void readHoldings(DvpSettler x) {
        for (int p : PARTICIPANTS) {
            for (int s : SECURITIES) {
                answers.put("holding(" + p + ", " + s + ")", x.holding(p, s));
            }
        }
    }

    Map<String, Integer> answers() {
        return answers;
    }

    /** What differs in the later state, each as "getter before -> after". */
    List<String> changesTo(State later) {
        List<String> changes = new ArrayList<>();
        for (Map.Entry<String, Integer> answer : answers.entrySet()) {
            Integer after = later.answers.get(answer.getKey());
            if (!answer.getValue().equals(after)) {
                changes.add(answer.getKey() + " " + answer.getValue() + " -> " + after);
            }
        }
        return changes;
    }
}
