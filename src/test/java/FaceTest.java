import java.lang.reflect.Constructor;
import java.lang.reflect.Field;
import java.lang.reflect.Method;
import java.lang.reflect.Modifier;
import java.util.Set;
import java.util.TreeSet;

/** The class has just the face that the document shows: these constants, calls and types, and no other. */
public final class FaceTest {
    private static final Check CHECK = new Check("The public face");
    private static final Set<String> CONSTANTS = new TreeSet<>();
    private static final Set<String> CALLS = new TreeSet<>();

    public static void main(String[] args) throws IllegalAccessException {
        readTheDocument();
        CHECK.due("the constants", constants(), CONSTANTS);
        CHECK.due("the constructor and the methods", calls(), CALLS);
        CHECK.due("the class's modifiers", Modifier.toString(DvpSettler.class.getModifiers()), "public final");
        CHECK.finish();
    }

    private static void readTheDocument() {
        for (String line : Section.textUnder("The public face").split("\n")) {
            String member = line.strip();
            if (member.startsWith("public static final ")) {
                CONSTANTS.add(member);
            } else if (member.endsWith(")")) {
                CALLS.add(withoutParameterNames(member));
            }
        }
    }

    private static String withoutParameterNames(String call) {
        int open = call.indexOf('(');
        return call.substring(0, open) + call.substring(open).replaceAll(" \\w+(?=[,)])", "").replace(", ", ",");
    }

    private static Set<String> constants() throws IllegalAccessException {
        Set<String> constants = new TreeSet<>();
        for (Field field : DvpSettler.class.getDeclaredFields()) {
            if (!Modifier.isPrivate(field.getModifiers())) {
                String value = Modifier.isStatic(field.getModifiers()) ? " = " + field.get(null) + ";" : "";
                constants.add(withoutClassName(field) + value);
            }
        }
        return constants;
    }

    private static Set<String> calls() {
        Set<String> calls = new TreeSet<>();
        for (Method method : DvpSettler.class.getDeclaredMethods()) {
            if (!Modifier.isPrivate(method.getModifiers())) {
                calls.add(withoutClassName(method));
            }
        }
        for (Constructor<?> constructor : DvpSettler.class.getDeclaredConstructors()) {
            calls.add(withoutClassName(constructor));
        }
        return calls;
    }

    private static String withoutClassName(Object member) {
        return member.toString().replace("DvpSettler.", "");
    }
}
