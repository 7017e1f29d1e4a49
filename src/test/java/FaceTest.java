import java.lang.reflect.Constructor;
import java.lang.reflect.Field;
import java.lang.reflect.Method;
import java.lang.reflect.Modifier;
import java.util.Arrays;
import java.util.Map;
import java.util.TreeMap;
import java.util.TreeSet;

/** The public face of the document, and nothing beside it. */
public final class FaceTest {
    public static void main(String[] arguments) throws IllegalAccessException {
        constants();
        methods();
        Check.due("the class is public and final", FormatScanner.class.getModifiers(), Modifier.PUBLIC | Modifier.FINAL);
        Constructor<?>[] made = FormatScanner.class.getDeclaredConstructors();
        Check.due("the constructors", Arrays.toString(made), "[public FormatScanner(int)]");
        Check.due("nested classes", FormatScanner.class.getDeclaredClasses().length, 0);
        Check.finish();
    }

    private static void constants() throws IllegalAccessException {
        Map<String, Object> want = new TreeMap<>();
        want.put("MAX_FORMAT", 64);
        want.put("MAX_INPUT", 256);
        want.put("SLOTS", 8);
        want.put("KIND_LITERAL", 0);
        want.put("KIND_LONG", 256);
        want.put("ERR_TRUNCATED", -1);
        want.put("ERR_BAD_CONV", -2);
        want.put("ERR_BAD_POS", -3);
        want.put("ERR_MIXED", -4);
        want.put("ERR_BAD_WIDTH", -5);
        want.put("ERR_TOO_MANY", -6);
        want.put("ERR_GAP", -7);
        want.put("ERR_OVERFLOW", -8);
        want.put("ERR_NOT_COMPILED", -9);
        want.put("ERR_FULL", -10);
        want.put("ERR_BAD_LENGTH", -11);
        Map<String, Object> got = new TreeMap<>();
        for (Field field : FormatScanner.class.getDeclaredFields()) {
            if (!Modifier.isPrivate(field.getModifiers())) {
                Check.due("modifiers of " + field, field.getModifiers(), Modifier.PUBLIC | Modifier.STATIC | Modifier.FINAL);
                got.put(field.getName(), field.get(null));
            }
        }
        Check.due("the constants", got, want);
    }

    private static void methods() {
        TreeSet<String> want = new TreeSet<>(Arrays.asList(
            "void clearFormat()", "int putFormatChar(char)", "int compile()", "int argCount()",
            "int entryKind(int)", "boolean setArg(int,long)", "int render()", "int outLength()",
            "char outChar(int)", "void clearInput()", "int putInputChar(char)", "int copyOutputToInput()",
            "int scan()", "long scanned(int)", "int scanMask()", "int scanEnd()"));
        TreeSet<String> got = new TreeSet<>();
        for (Method method : FormatScanner.class.getDeclaredMethods()) {
            if (!Modifier.isPrivate(method.getModifiers())) {
                Check.due("modifiers of " + method, method.getModifiers(), Modifier.PUBLIC);
                got.add(method.toString().replace("public ", "").replace("FormatScanner.", ""));
            }
        }
        Check.due("the methods", got, want);
    }
}
