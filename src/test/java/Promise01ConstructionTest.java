import java.util.Map;

public final class Promise01ConstructionTest {
    private static final Section SECTION = new Section("Promise 1: Construction");
    private static final int MIN = Integer.MIN_VALUE;
    private static final int MAX = Integer.MAX_VALUE;

    public static void main(String[] args) {
        participants();
        securities();
        capacity();
        maxRecycles();
        everyInt();
        theStart();
        later();
        SECTION.finish();
    }

    private static void made(String words, String what, int p, int s, int q, int r, String want) {
        SECTION.test(words, what, check -> {
            String call = "the sizes of new DvpSettler(" + p + ", " + s + ", " + q + ", " + r + ")";
            check.due(call, Sizes.of(new DvpSettler(p, s, q, r)), want);
        });
    }

    private static void participants() {
        String words = "participants P: 2..8";
        made(words, "1 is too small", 1, 2, 10, 3, "2 2 10 3");
        made(words, "0 is too small", 0, 2, 10, 3, "2 2 10 3");
        made(words, "2 is the least", 2, 2, 10, 3, "2 2 10 3");
        made(words, "3 lies between", 3, 2, 10, 3, "3 2 10 3");
        made(words, "7 lies between", 7, 2, 10, 3, "7 2 10 3");
        made(words, "8 is the greatest", 8, 2, 10, 3, "8 2 10 3");
        made(words, "9 is too large", 9, 2, 10, 3, "8 2 10 3");
    }

    private static void securities() {
        String words = "securities S: 1..4";
        made(words, "0 is too small", 3, 0, 10, 3, "3 1 10 3");
        made(words, "1 is the least", 3, 1, 10, 3, "3 1 10 3");
        made(words, "2 lies between", 3, 2, 10, 3, "3 2 10 3");
        made(words, "3 lies between", 3, 3, 10, 3, "3 3 10 3");
        made(words, "4 is the greatest", 3, 4, 10, 3, "3 4 10 3");
        made(words, "5 is too large", 3, 5, 10, 3, "3 4 10 3");
    }

    private static void capacity() {
        String words = "capacity Q (number of slots): 8..64";
        made(words, "7 is too small", 3, 2, 7, 3, "3 2 8 3");
        made(words, "0 is too small", 3, 2, 0, 3, "3 2 8 3");
        made(words, "8 is the least", 3, 2, 8, 3, "3 2 8 3");
        made(words, "9 lies between", 3, 2, 9, 3, "3 2 9 3");
        made(words, "63 lies between", 3, 2, 63, 3, "3 2 63 3");
        made(words, "64 is the greatest", 3, 2, 64, 3, "3 2 64 3");
        made(words, "65 is too large", 3, 2, 65, 3, "3 2 64 3");
    }

    private static void maxRecycles() {
        String words = "maxRecycles R: 1..8";
        made(words, "0 is too small", 3, 2, 10, 0, "3 2 10 1");
        made(words, "1 is the least", 3, 2, 10, 1, "3 2 10 1");
        made(words, "2 lies between", 3, 2, 10, 2, "3 2 10 2");
        made(words, "7 lies between", 3, 2, 10, 7, "3 2 10 7");
        made(words, "8 is the greatest", 3, 2, 10, 8, "3 2 10 8");
        made(words, "9 is too large", 3, 2, 10, 9, "3 2 10 8");
    }

    private static void everyInt() {
        made("below the least allowed value becomes the least", "each by one", 1, 0, 7, 0, "2 1 8 1");
        made("above the greatest becomes the greatest", "each by one", 9, 5, 65, 9, "8 4 64 8");
        String negative = "including negative values";
        made(negative, "participants", -1, 2, 10, 3, "2 2 10 3");
        made(negative, "securities", 3, -1, 10, 3, "3 1 10 3");
        made(negative, "capacity", 3, 2, -1, 3, "3 2 8 3");
        made(negative, "maxRecycles", 3, 2, 10, -1, "3 2 10 1");
        made(negative, "values whose sign alone is wrong", -3, -2, -10, -3, "2 1 8 1");
        String extreme = "Integer.MIN_VALUE / Integer.MAX_VALUE";
        made(extreme, "the least participants", MIN, 2, 10, 3, "2 2 10 3");
        made(extreme, "the least securities", 3, MIN, 10, 3, "3 1 10 3");
        made(extreme, "the least capacity", 3, 2, MIN, 3, "3 2 8 3");
        made(extreme, "the least maxRecycles", 3, 2, 10, MIN, "3 2 10 1");
        made(extreme, "the greatest participants", MAX, 2, 10, 3, "8 2 10 3");
        made(extreme, "the greatest securities", 3, MAX, 10, 3, "3 4 10 3");
        made(extreme, "the greatest capacity", 3, 2, MAX, 3, "3 2 64 3");
        made(extreme, "the greatest maxRecycles", 3, 2, 10, MAX, "3 2 10 8");
        made(extreme, "the least of all", MIN, MIN, MIN, MIN, "2 1 8 1");
        made(extreme, "the greatest of all", MAX, MAX, MAX, MAX, "8 4 64 8");
        made("This holds for every int", "values that a cast would bring into range", 65538, 65537, 65544, 65539,
                "8 4 64 8");
    }

    private static void theStart() {
        allAnswer("every cash(p) and holding(p, s) is 0", "(cash|holding)\\(([0-2]|[0-2], [01])\\)", 0);
        allAnswer("totalCash() is 0 and every totalHolding(s) is 0", "totalCash\\(\\)|totalHolding\\([01]\\)", 0);
        allAnswer("all Q slots are EMPTY", "status\\(([0-9]|10)\\)", DvpSettler.EMPTY);
        allAnswer("all Q slots are EMPTY", "(attempts|settledCycle)\\(.*\\)", -1);
        allAnswer("the cycle count is 0", "cycleCount\\(\\)", 0);
        allAnswer("removedAt answers -1 for every k", "removedAt\\(.*\\)", -1);
        SECTION.test("the next sequence number is 0", "the first accepted is the oldest", check -> {
            DvpSettler x = Scene.allQueued(8, 1);
            x.fundSecurity(0, 0, 1);
            x.cycle();
            check.due("status(0), which alone is covered", x.status(0), DvpSettler.SETTLED);
        });
    }

    /** Every getter whose call fits the pattern answers so on a new object of 3, 2, 11 and 2. */
    private static void allAnswer(String words, String calls, int want) {
        SECTION.test(words, calls + " of a new object", check -> {
            int found = 0;
            for (Map.Entry<String, Integer> answer : State.of(new DvpSettler(3, 2, 11, 2)).answers().entrySet()) {
                if (answer.getKey().matches(calls)) {
                    check.due(answer.getKey(), answer.getValue(), want);
                    found++;
                }
            }
            check.due("whether any getter was read", found > 0, true);
        });
    }

    private static void later() {
        SECTION.test("P, S, Q and R never change afterwards", "after a call of every kind", check -> {
            DvpSettler x = Scene.everyStatus();
            x.clearDone();
            check.due("the sizes", Sizes.of(x), "3 2 8 2");
        });
        SECTION.test("P, S, Q and R never change afterwards", "when another object is made", check -> {
            DvpSettler x = new DvpSettler(3, 2, 11, 4);
            State before = State.of(x);
            Sizes.of(new DvpSettler(8, 4, 64, 8));
            check.due("what changed", before.changesTo(State.of(x)).toString(), "[]");
            check.due("the sizes", Sizes.of(x), "3 2 11 4");
        });
    }
}
