import java.io.IOException;
import java.lang.reflect.Field;
import java.lang.reflect.Method;
import java.lang.reflect.Modifier;
import java.nio.file.Files;
import java.nio.file.Path;
import java.util.HashSet;
import java.util.LinkedHashMap;
import java.util.Map;
import java.util.Set;
import java.util.regex.Matcher;
import java.util.regex.Pattern;

/** The rules of LANGUAGE.md, as far as they can be seen in the class and in its text. */
public final class LanguageTest {
    private static final Check CHECK = new Check("LANGUAGE.md");
    private static final Path SOURCE = Path.of("src/main/java/DvpSettler.java");
    private static final int MOST_FIELDS = 40;
    private static final int MOST_PARAMETERS = 7;
    private static final int MOST_LINES = 60;
    private static final int DEEPEST = 6;
    private static final Pattern METHOD = Pattern.compile(
            "(?ms)^    (?:public|private)(?: static)?(?: \\w+)? (\\w+)\\([^)]*\\) \\{\\n(.*?)^    \\}$");

    private static String text;
    private static final Map<String, String> BODIES = new LinkedHashMap<>();

    public static void main(String[] args) throws IOException {
        text = Files.readString(SOURCE).replaceAll("//[^\n]*", "").replaceAll("(?s)/\\*.*?\\*/", "");
        Matcher method = METHOD.matcher(text);
        while (method.find()) {
            BODIES.put(method.group(1), method.group(2));
        }
        oneClass();
        words();
        arrays();
        staticFields();
        loops();
        callsAndSizes();
        CHECK.finish();
    }

    private static void oneClass() {
        CHECK.due("rule 1: nested classes", DvpSettler.class.getDeclaredClasses().length, 0);
        Set<String> names = new HashSet<>();
        for (Method method : DvpSettler.class.getDeclaredMethods()) {
            CHECK.due("rule 1: whether the name " + method.getName() + " is used once", names.add(method.getName()), true);
        }
        names.add("DvpSettler");
        CHECK.due("the methods that this test found in the text", BODIES.keySet(), names);
    }

    private static void words() {
        absent("rules 1 and 3", "package", "import", "enum", "record", "interface", "protected");
        absent("rule 2", "float", "double", "String", "Object", "var", "\"", "[][]");
        absent("rule 3", "Math", "Integer", "Long", "System", "Arrays", "hashCode", "equals", "getClass", "toString");
        absent("rule 4", "null");
        absent("rule 6", "throw", "throws", "try", "catch", "synchronized", "assert", "instanceof", "->", "::");
        absent("rule 11", "native", "volatile", "Thread");
    }

    private static void absent(String rule, String... words) {
        for (String word : words) {
            boolean isName = Character.isLetter(word.charAt(0));
            String pattern = isName ? "\\b" + word + "\\b" : Pattern.quote(word);
            CHECK.due(rule + ": whether the text holds " + word, Pattern.compile(pattern).matcher(text).find(), false);
        }
    }

    private static void arrays() {
        String rest = text.replaceAll("private final \\w+\\[\\] \\w+ = new \\w+\\[[A-Z_0-9]+\\];", "");
        CHECK.due("rule 4: arrays outside plain field initialisers", rest.matches("(?s).*(\\bnew\\b|\\[\\]).*"), false);
        for (Field field : DvpSettler.class.getDeclaredFields()) {
            Class<?> type = field.getType();
            Class<?> element = type.isArray() ? type.getComponentType() : type;
            CHECK.due("rule 2: whether " + field.getName() + " is made of numbers", element.isPrimitive(), true);
        }
        for (Method method : DvpSettler.class.getDeclaredMethods()) {
            CHECK.due("rule 4: whether " + method.getName() + " answers a number", method.getReturnType().isPrimitive(), true);
        }
    }

    private static void staticFields() {
        int others = 0;
        for (Field field : DvpSettler.class.getDeclaredFields()) {
            if (Modifier.isStatic(field.getModifiers())) {
                boolean isNumber = field.getType() == int.class || field.getType() == long.class;
                boolean isFinal = Modifier.isFinal(field.getModifiers());
                CHECK.due("rule 5: whether " + field.getName() + " is a constant", isNumber && isFinal, true);
            } else {
                others++;
            }
        }
        CHECK.due("rule 10: whether " + others + " fields are few enough", others <= MOST_FIELDS, true);
    }

    /** Stricter than rule 8: every loop is a for that counts one by one up to a bound of one name. */
    private static void loops() {
        Pattern counted = Pattern.compile("for \\(int (\\w+) = 0; \\1 <=? \\w+; \\1\\+\\+\\) \\{");
        String rest = counted.matcher(text).replaceAll("");
        CHECK.due("rule 8: loops of another kind", rest.matches("(?s).*\\b(for|while|do)\\b.*"), false);
    }

    private static void callsAndSizes() {
        for (Method method : DvpSettler.class.getDeclaredMethods()) {
            CHECK.due("rule 10: whether " + method.getName() + " takes few enough",
                    method.getParameterCount() <= MOST_PARAMETERS, true);
        }
        for (String name : BODIES.keySet()) {
            int lines = BODIES.get(name).split("\n").length;
            CHECK.due("rule 10: whether " + name + " of " + lines + " lines is short", lines <= MOST_LINES, true);
            CHECK.due("rules 8 and 10: whether calls from " + name + " go deeper", goesDeeper(name, DEEPEST), false);
        }
        Matcher nested = Pattern.compile("\\b(?!(?:if|for|while|switch|return)\\b)\\w+\\((?:[^();{}]|\\([^()]*\\))*?\\w+\\(")
                .matcher(text);
        CHECK.due("rule 10: a call inside the arguments of another", nested.find() ? nested.group() : "none", "none");
    }

    /** A method that calls itself, by whatever way, goes deeper than any bound. */
    private static boolean goesDeeper(String name, int levels) {
        if (levels == 0) {
            return true;
        }
        Matcher call = Pattern.compile("\\b(\\w+)\\(").matcher(BODIES.get(name));
        boolean deeper = false;
        while (call.find()) {
            deeper |= BODIES.containsKey(call.group(1)) && goesDeeper(call.group(1), levels - 1);
        }
        return deeper;
    }
}
