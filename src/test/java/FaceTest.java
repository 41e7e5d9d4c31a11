import java.lang.reflect.Constructor;
import java.lang.reflect.Field;
import java.lang.reflect.Member;
import java.lang.reflect.Method;
import java.lang.reflect.Modifier;
import java.util.Set;
import java.util.TreeSet;

/** The face is the document's, and nothing beside it can be seen from outside. */
public final class FaceTest {
    private static final Check CHECK = new Check("FaceTest");
    private static final String ARGUMENT = " IllegalArgumentException";
    private static final String STATE = " IllegalStateException";
    private static final String INDEX = " IndexOutOfBoundsException";
    private static final String[] METHODS = {
        "int value(long)" + ARGUMENT,
        "int category(long)" + ARGUMENT,
        "long best(long)" + ARGUMENT,
        "int worth(int)" + ARGUMENT,
        "int sets(int)" + ARGUMENT,
        "int first(int)" + ARGUMENT,
        "boolean seat(int,int,int)" + INDEX + ARGUMENT,
        "boolean leave(int)" + INDEX,
        "int board(int)" + ARGUMENT,
        "int clear()",
        "long cards(int)" + INDEX,
        "int hand(int)" + INDEX + STATE,
        "int ahead()" + STATE,
        "int boards()" + STATE,
        "int wins(int,int)" + INDEX + ARGUMENT + STATE,
        "long outs(int)" + INDEX + STATE,
        "int share(int,int)" + INDEX + ARGUMENT + STATE,
        "void shuffle(int)",
        "int draw()"
    };

    public static void main(String[] args) {
        CHECK.due("the class's modifiers", HandTables.class.getModifiers(),
            Modifier.PUBLIC | Modifier.FINAL);
        CHECK.due("NONE", HandTables.NONE, -1);
        methods();
        fields();
        Constructor<?>[] constructors = HandTables.class.getDeclaredConstructors();
        CHECK.due("constructors", constructors.length, 1);
        CHECK.due("the constructor is public", constructors[0].getModifiers(), Modifier.PUBLIC);
        CHECK.due("its parameters", constructors[0].getParameterCount(), 0);
        CHECK.finish();
    }

    private static void methods() {
        Set<String> seen = new TreeSet<>();
        Set<String> names = new TreeSet<>();
        for (Method method : HandTables.class.getDeclaredMethods()) {
            if (isVisible(method)) {
                seen.add(written(method));
                names.add(method.getName());
            }
        }
        CHECK.same("the methods", seen.toString(), new TreeSet<>(Set.of(METHODS)).toString());
        for (Method method : HandTables.class.getDeclaredMethods()) {
            if (!isVisible(method)) {
                CHECK.due(method.getName() + " is public too",
                    names.contains(method.getName()), false);
            }
        }
    }

    private static void fields() {
        for (Field field : HandTables.class.getDeclaredFields()) {
            CHECK.due(field.getName() + " is seen", isVisible(field),
                field.getName().equals("NONE"));
            if (Modifier.isStatic(field.getModifiers())) {
                CHECK.due(field.getName() + " is final",
                    Modifier.isFinal(field.getModifiers()), true);
            }
        }
    }

    private static boolean isVisible(Member member) {
        return !Modifier.isPrivate(member.getModifiers()) && !member.isSynthetic();
    }

    private static String written(Method method) {
        StringBuilder text = new StringBuilder();
        text.append(method.getReturnType()).append(' ').append(method.getName()).append('(');
        for (Class<?> type : method.getParameterTypes()) {
            text.append(text.charAt(text.length() - 1) == '(' ? "" : ",").append(type);
        }
        text.append(')');
        for (Class<?> type : method.getExceptionTypes()) {
            text.append(' ').append(type.getSimpleName());
        }
        return text.toString();
    }
}
