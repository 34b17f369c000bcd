import java.io.IOException;
import java.io.UncheckedIOException;
import java.nio.file.Files;
import java.nio.file.Path;
import java.util.function.Consumer;
import java.util.function.IntUnaryOperator;
import java.util.function.ObjIntConsumer;
import java.util.function.Supplier;

/**
 * The tests of one section of the document. Each test stands beside the words of that section that
 * it would find broken; words that the section does not hold are a fault of the test itself.
 */
final class Section {
    private static final Path DOCUMENT = Path.of("../shared/DOC.md");

    private final String heading;
    private final String text;
    private int tests = 0;
    private int failed = 0;

    Section(String heading) {
        this.heading = heading;
        this.text = textUnder(heading);
    }

    static String textUnder(String heading) {
        try {
            for (String section : Files.readString(DOCUMENT).split("(?m)^## ")) {
                if (section.startsWith(heading + "\n")) {
                    return section;
                }
            }
            return "";
        } catch (IOException e) {
            throw new UncheckedIOException(e);
        }
    }

    void test(String words, String what, Consumer<Check> test) {
        Check check = new Check(heading + ", \"" + words + "\", " + what);
        check.due("whether the section says so", text.contains(words), true);
        try {
            test.accept(check);
        } catch (RuntimeException e) {
            check.due("a call", e.toString(), "anything but an exception");
        }
        tests++;
        if (!check.isClean()) {
            failed++;
        }
    }

    /** A test that makes one call with each of the arguments, all on one object. */
    void each(String words, String what, int[] arguments, Supplier<DvpSettler> made, ObjIntConsumer<Probe> call) {
        test(words, what, check -> {
            Probe t = new Probe(check, made.get());
            for (int argument : arguments) {
                call.accept(t, argument);
            }
        });
    }

    /** A test that a getter answers -1 to each of the arguments. */
    void eachUnknown(String words, String what, int[] arguments, IntUnaryOperator getter) {
        test(words, what, check -> {
            for (int argument : arguments) {
                check.due("the answer to " + argument, getter.applyAsInt(argument), -1);
            }
        });
    }

    void finish() {
        System.out.println(heading + ": " + tests + " tests, " + failed + " failed");
        if (failed != 0 || tests == 0) {
            System.exit(1);
        }
    }
}
