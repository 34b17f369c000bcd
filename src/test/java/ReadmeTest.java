import java.io.IOException;
import java.lang.reflect.Field;
import java.lang.reflect.Method;
import java.lang.reflect.Modifier;
import java.nio.file.Files;
import java.nio.file.Path;
import java.util.ArrayDeque;
import java.util.Deque;

/** README.md tells every call and constant, and its example answers what it says there. */
public final class ReadmeTest {
    private static final Check CHECK = new Check("README.md");
    private static final Deque<String> LINES = new ArrayDeque<>();

    public static void main(String[] args) throws IOException {
        String readme = Files.readString(Path.of("README.md"));
        namesEverything(readme);
        readExample(readme);
        playExample();
        CHECK.due("lines of the example that this test does not know", LINES.toString(), "[]");
        CHECK.finish();
    }

    private static void namesEverything(String readme) {
        for (Method method : DvpSettler.class.getDeclaredMethods()) {
            if (Modifier.isPublic(method.getModifiers())) {
                String call = "`" + method.getName() + "(";
                CHECK.due("whether it tells of " + call, readme.contains(call), true);
            }
        }
        for (Field field : DvpSettler.class.getDeclaredFields()) {
            if (Modifier.isPublic(field.getModifiers())) {
                String constant = "`" + field.getName() + "`";
                CHECK.due("whether it tells of " + constant, readme.contains(constant), true);
            }
        }
    }

    private static void readExample(String readme) {
        String start = "```java\n";
        int from = readme.indexOf(start) + start.length();
        for (String line : readme.substring(from, readme.indexOf("```", from)).split("\n")) {
            if (!line.isBlank()) {
                LINES.add(line);
            }
        }
    }

    private static void playExample() {
        DvpSettler settler = new DvpSettler(4, 1, 16, 2);
        next("DvpSettler settler = new DvpSettler(4, 1, 16, 2);", "participants, securities, slots, recycles");
        next("settler.fundSecurity(0, 0, 10);", settler.fundSecurity(0, 0, 10));
        next("settler.fundCash(2, 50);", settler.fundCash(2, 50));

        int first = settler.submit(0 * 16 + 1, 0, 10, 50);
        next("int first = settler.submit(0 * 16 + 1, 0, 10, 50);", first);
        int second = settler.submit(1 * 16 + 2, 0, 10, 50);
        next("int second = settler.submit(1 * 16 + 2, 0, 10, 50);", second);
        next("settler.settleNow(first);", settler.settleNow(first));
        next("settler.cycle();", settler.cycle());
        next("settler.cash(0);", settler.cash(0));
        next("settler.holding(2, 0);", settler.holding(2, 0));
        next("settler.settledCycle(second);", settler.settledCycle(second));
        next("settler.clearDone();", settler.clearDone());

        int third = settler.submit(0 * 16 + 3, 0, 10, 50);
        next("int third = settler.submit(0 * 16 + 3, 0, 10, 50);", third);
        next("settler.cycle();", settler.cycle());
        next("settler.removedAt(0);", settler.removedAt(0));
        next("settler.attempts(third);", settler.attempts(third));
        next("settler.status(third);", settler.status(third));
        next("settler.cycle();", settler.cycle());
        next("settler.status(third);", settler.status(third));
    }

    /** The example's next line makes this call, and tells this answer before any explanation. */
    private static void next(String call, Object answer) {
        String line = LINES.isEmpty() ? "nothing" : LINES.remove();
        String told = line.replaceAll("\\s*// ", " ").replaceAll(": .*", "");
        CHECK.due("its example's line", told, call + " " + answer);
    }
}
