import java.io.IOException;
import java.lang.reflect.Field;
import java.lang.reflect.Method;
import java.lang.reflect.Modifier;
import java.nio.file.Files;
import java.nio.file.Path;
import java.util.Set;
import java.util.regex.Matcher;
import java.util.regex.Pattern;

/** Rules of LANGUAGE.md that can be seen in the source, or in the class made of it. */
public final class LanguageTest {
    private static final Check CHECK = new Check("LanguageTest");
    private static final Path SOURCE = Path.of("src/main/java/HandTables.java");
    private static final Set<String> LIBRARY = Set.of("Long.bitCount", "Integer.bitCount");
    private static final Set<String> EXCEPTIONS = Set.of(
        "IllegalStateException", "IllegalArgumentException", "IndexOutOfBoundsException");
    private static final Set<Class<?>> CONSTANTS = Set.of(
        int.class, long.class, int[].class, long[].class);
    private static final Pattern USE = Pattern.compile("\\b([A-Z]\\w*)\\s*\\.\\s*(\\w+)");
    private static final Pattern THROW = Pattern.compile("\\bthrow\\b([^;]*);");
    private static final Pattern THROWN = Pattern.compile(" new (\\w+)\\((\"[^\"]*\")?\\)");
    private static final String[] NOT_USED = {
        "import ", "package ", "->", "::", "static {", "try ", "catch ", "finally", "synchronized",
        "assert ", "double", "float", "volatile", "native", "System", "Math", "toString", "hashCode"
    };

    public static void main(String[] args) throws IOException {
        String code = withoutComments(Files.readString(SOURCE));
        library(code);
        exceptions(code);
        for (String word : NOT_USED) {
            CHECK.due("'" + word + "' is used", code.contains(word), false);
        }
        parameters();
        staticFields();
        CHECK.finish();
    }

    private static String withoutComments(String source) {
        return source.replaceAll("(?s)/\\*.*?\\*/", "").replaceAll("//.*", "");
    }

    private static String withoutTexts(String code) {
        return code.replaceAll("\"[^\"]*\"", "\"\"");
    }

    /** Rule 4: "The library: only what stands here." Of that the class needs these functions. */
    private static void library(String code) {
        Matcher use = USE.matcher(withoutTexts(code));
        while (use.find()) {
            String name = use.group(1) + "." + use.group(2);
            CHECK.due(name + " may be used", LIBRARY.contains(name), true);
        }
    }

    /** Rule 6: "throw new E() or throw new E("a written text")". */
    private static void exceptions(String code) {
        Matcher thrown = THROW.matcher(code);
        while (thrown.find()) {
            Matcher made = THROWN.matcher(thrown.group(1));
            CHECK.due("throw" + thrown.group(1),
                made.matches() && EXCEPTIONS.contains(made.group(1)), true);
        }
    }

    /** Rule 11: "A method takes at most seven parameters." */
    private static void parameters() {
        for (Method method : HandTables.class.getDeclaredMethods()) {
            CHECK.due(method.getName() + " has few parameters",
                method.getParameterCount() <= 7, true);
        }
    }

    /** Rule 5: "Static fields are final: constants of int, long, .. arrays of int, long". */
    private static void staticFields() {
        for (Field field : HandTables.class.getDeclaredFields()) {
            if (Modifier.isStatic(field.getModifiers())) {
                CHECK.due(field.getName() + " is a constant",
                    Modifier.isFinal(field.getModifiers()) && CONSTANTS.contains(field.getType()),
                    true);
            }
        }
    }
}
