import java.lang.reflect.Constructor;
import java.lang.reflect.Field;
import java.lang.reflect.Method;
import java.lang.reflect.Modifier;
import java.util.Set;
import java.util.TreeSet;

/** The public face of the document: its calls, their exceptions, and nothing else. */
public final class FaceTest {

    private static final Check CHECK = new Check("FaceTest");
    private static final String INDEX = " IndexOutOfBoundsException";
    private static final String ARGUMENT = " IllegalArgumentException";
    private static final String STATE = " IllegalStateException";

    private static final String[] FACE = {
        "int setWay(int, int, int)" + INDEX + ARGUMENT,
        "int addTrip(int, int, int, int)" + INDEX + ARGUMENT + STATE,
        "int trip(int, int)" + INDEX,
        "int setRules(int, int, int, int)" + ARGUMENT,
        "int count(int)" + INDEX,
        "int addDuty()" + STATE,
        "int put(int, int)" + INDEX + STATE,
        "int takeOut(int)" + INDEX + STATE,
        "int duty(int, int)" + INDEX,
        "int tripAt(int, int)" + INDEX,
        "int bestFor(int)" + INDEX,
        "int plan()",
        "int swap(int, int, int)" + INDEX + ARGUMENT + STATE,
        "int improve()",
        "int pay()",
        "double use()",
        "int addDriver()" + STATE,
        "int reason(int, int, int)" + INDEX,
        "int give(int, int, int)" + INDEX + STATE,
        "int takeBack(int, int)" + INDEX + STATE,
        "int given(int, int)" + INDEX,
        "int fill(int)" + INDEX,
        "int week(int)" + INDEX,
        "int rest(int, int)" + INDEX,
        "long digest()",
    };

    public static void main(String[] args) {
        CHECK.due("the class is public and final", DutyDesk.class.getModifiers(),
                Modifier.PUBLIC | Modifier.FINAL);
        constructor();
        methods();
        fields();
        classesInside();
        CHECK.end();
    }

    private static void constructor() {
        Constructor<?>[] all = DutyDesk.class.getDeclaredConstructors();
        CHECK.due("the number of constructors", all.length, 1);
        CHECK.due("its parameters", all[0].getParameterCount(), 0);
        CHECK.due("it is public", all[0].getModifiers(), Modifier.PUBLIC);
    }

    private static void methods() {
        Set<String> due = new TreeSet<>(Set.of(FACE));
        Set<String> publicNames = new TreeSet<>();
        Set<String> privateNames = new TreeSet<>();
        Set<String> got = new TreeSet<>();
        for (Method method : DutyDesk.class.getDeclaredMethods()) {
            if (Modifier.isPrivate(method.getModifiers())) {
                privateNames.add(method.getName());
            } else {
                publicNames.add(method.getName());
                CHECK.due(method.getName() + " is public", method.getModifiers(), Modifier.PUBLIC);
                got.add(describe(method));
            }
        }
        CHECK.due("the face", got.toString(), due.toString());
        publicNames.retainAll(privateNames);
        CHECK.due("private methods with public names", publicNames.toString(), "[]");
    }

    private static String describe(Method method) {
        StringBuilder text = new StringBuilder();
        text.append(method.getReturnType()).append(' ').append(method.getName()).append('(');
        for (int i = 0; i < method.getParameterCount(); i++) {
            text.append(i == 0 ? "" : ", ").append(method.getParameterTypes()[i]);
        }
        text.append(')');
        for (Class<?> thrown : method.getExceptionTypes()) {
            text.append(' ').append(thrown.getSimpleName());
        }
        return text.toString();
    }

    private static void fields() {
        for (Field field : DutyDesk.class.getDeclaredFields()) {
            CHECK.due(field.getName() + " is private",
                    Modifier.isPrivate(field.getModifiers()) ? 1 : 0, 1);
            CHECK.due(field.getName() + " is final if it is static",
                    !Modifier.isStatic(field.getModifiers())
                            || Modifier.isFinal(field.getModifiers()) ? 1 : 0, 1);
        }
    }

    private static void classesInside() {
        for (Class<?> inside : DutyDesk.class.getDeclaredClasses()) {
            int modifiers = inside.getModifiers();
            CHECK.due(inside.getName() + " is static", Modifier.isStatic(modifiers) ? 1 : 0, 1);
            CHECK.due(inside.getName() + " is not public",
                    Modifier.isPublic(modifiers) || Modifier.isProtected(modifiers) ? 1 : 0, 0);
        }
    }
}
