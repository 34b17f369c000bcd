import java.io.IOException;
import java.lang.reflect.Constructor;
import java.lang.reflect.Field;
import java.lang.reflect.Method;
import java.lang.reflect.Modifier;
import java.nio.file.Files;
import java.nio.file.Path;
import java.util.HashSet;
import java.util.Set;
import java.util.TreeSet;
import java.util.regex.Matcher;
import java.util.regex.Pattern;

/** The public face of the document, and those rules of LANGUAGE.md that can be seen from outside or in the text. */
public final class FaceTest {
    private static final Check CHECK = new Check("face");
    private static final Path SOURCE = Path.of("src/main/java/DvpSettler.java");
    private static final String[] FORBIDDEN = {"import", "package", "float", "double", "String", "Math", "Integer",
        "System", "Arrays", "Object", "throw", "throws", "try", "catch", "synchronized", "assert", "instanceof",
        "null", "enum", "record", "interface", "protected", "->", "::", "\"", "[][]"};

    public static void main(String[] args) throws IOException {
        theFaceIsTheDocuments();
        theConstantsAreTheDocuments();
        fieldsKeepToTheRules();
        methodsKeepToTheRules();
        theTextKeepsToTheRules();
        CHECK.finish();
    }

    private static void theFaceIsTheDocuments() {
        Set<String> want = new TreeSet<>(Set.of(
                "public boolean DvpSettler.fundCash(int,int)", "public boolean DvpSettler.fundSecurity(int,int,int)",
                "public int DvpSettler.submit(int,int,int,int)", "public boolean DvpSettler.cancel(int)",
                "public boolean DvpSettler.settleNow(int)", "public int DvpSettler.cycle()",
                "public int DvpSettler.clearDone()", "public int DvpSettler.cash(int)",
                "public int DvpSettler.holding(int,int)", "public int DvpSettler.totalCash()"));
        want.addAll(Set.of(
                "public int DvpSettler.totalHolding(int)", "public int DvpSettler.status(int)",
                "public int DvpSettler.attempts(int)", "public int DvpSettler.settledCycle(int)",
                "public int DvpSettler.removedAt(int)", "public int DvpSettler.cycleCount()",
                "public DvpSettler(int,int,int,int)"));
        Set<String> got = new TreeSet<>();
        for (Method method : DvpSettler.class.getDeclaredMethods()) {
            if (!Modifier.isPrivate(method.getModifiers())) {
                got.add(method.toString());
            }
        }
        for (Constructor<?> constructor : DvpSettler.class.getDeclaredConstructors()) {
            got.add(constructor.toString());
        }
        CHECK.due("the methods and the constructor", got, want);
        CHECK.due("the class's modifiers", Modifier.toString(DvpSettler.class.getModifiers()), "public final");
        CHECK.due("nested classes", DvpSettler.class.getDeclaredClasses().length, 0);
    }

    private static void theConstantsAreTheDocuments() {
        CHECK.due("EMPTY", DvpSettler.EMPTY, 0);
        CHECK.due("QUEUED", DvpSettler.QUEUED, 1);
        CHECK.due("SETTLED", DvpSettler.SETTLED, 2);
        CHECK.due("CANCELLED", DvpSettler.CANCELLED, 3);
        CHECK.due("FAILED", DvpSettler.FAILED, 4);
        CHECK.due("MAX_AMOUNT", DvpSettler.MAX_AMOUNT, 1000000);
        CHECK.due("MAX_TOTAL", DvpSettler.MAX_TOTAL, 100000000);
        Set<String> got = new TreeSet<>();
        for (Field field : DvpSettler.class.getDeclaredFields()) {
            if (!Modifier.isPrivate(field.getModifiers())) {
                got.add(field.toString().replace("DvpSettler.", ""));
            }
        }
        Set<String> want = new TreeSet<>();
        for (String name : new String[] {"EMPTY", "QUEUED", "SETTLED", "CANCELLED", "FAILED", "MAX_AMOUNT", "MAX_TOTAL"}) {
            want.add("public static final int " + name);
        }
        CHECK.due("the fields that are not private", got, want);
    }

    private static void fieldsKeepToTheRules() {
        int fields = 0;
        for (Field field : DvpSettler.class.getDeclaredFields()) {
            Class<?> type = field.getType();
            if (Modifier.isStatic(field.getModifiers())) {
                CHECK.due("static " + field.getName() + " is a constant number",
                        Modifier.isFinal(field.getModifiers()) && (type == int.class || type == long.class), true);
                continue;
            }
            fields++;
            Class<?> element = type.isArray() ? type.getComponentType() : type;
            CHECK.due(field.getName() + " is a number or a row of numbers", element.isPrimitive(), true);
            CHECK.due(field.getName() + " is final where it is an array",
                    !type.isArray() || Modifier.isFinal(field.getModifiers()), true);
        }
        CHECK.due("at most forty fields", fields <= 40, true);
    }

    private static void methodsKeepToTheRules() {
        Set<String> names = new HashSet<>();
        for (Method method : DvpSettler.class.getDeclaredMethods()) {
            CHECK.due("the name " + method.getName() + " is used once", names.add(method.getName()), true);
            CHECK.due(method.getName() + " takes at most seven", method.getParameterCount() <= 7, true);
            CHECK.due(method.getName() + " answers no array", method.getReturnType().isPrimitive(), true);
        }
    }

    private static void theTextKeepsToTheRules() throws IOException {
        String text = Files.readString(SOURCE).replaceAll("//[^\n]*", "").replaceAll("(?s)/\\*.*?\\*/", "");
        for (String word : FORBIDDEN) {
            boolean isName = Character.isLetter(word.charAt(0));
            String pattern = isName ? "\\b" + word + "\\b" : Pattern.quote(word);
            CHECK.due("the text holds " + word, Pattern.compile(pattern).matcher(text).find(), false);
        }
        String withoutFields = text.replaceAll("private final \\w+\\[\\] \\w+ = new \\w+\\[[A-Z_0-9]+\\];", "");
        CHECK.due("the text holds new outside a field", withoutFields.matches("(?s).*\\bnew\\b.*"), false);
        Matcher nested = Pattern.compile("\\b(?!(?:if|for|while|switch|return)\\b)\\w+\\((?:[^();{}]|\\([^()]*\\))*?\\w+\\(")
                .matcher(text);
        CHECK.due("a call inside the arguments of another", nested.find() ? nested.group() : "none", "none");
    }
}
