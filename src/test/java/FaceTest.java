import java.lang.reflect.Constructor;
import java.lang.reflect.Field;
import java.lang.reflect.Method;
import java.lang.reflect.Modifier;
import java.util.ArrayList;
import java.util.Arrays;
import java.util.Collections;
import java.util.List;

/** The public face: just what the document lists, with its signatures, and nothing else. */
public final class FaceTest {
    private static final String INDEX = "IndexOutOfBoundsException";
    private static final String ARGUMENT = "IllegalArgumentException";
    private static final String STATE = "IllegalStateException";

    private static final String[] FACE = {
        "int addParty(int) " + ARGUMENT + " " + STATE,
        "int addDuty(int, int, int, int, int, int, int) " + INDEX + " " + ARGUMENT + " " + STATE,
        "int pay(int) " + INDEX + " " + STATE,
        "int release(int) " + INDEX + " " + STATE,
        "int stop(int, int) " + INDEX + " " + ARGUMENT + " " + STATE,
        "int give(int, int) " + INDEX + " " + ARGUMENT,
        "int pass(int) " + ARGUMENT,
        "int day()",
        "int parties()",
        "int duties()",
        "int inState(int) " + ARGUMENT,
        "int purseOf(int) " + INDEX,
        "int penalties()",
        "int stateOf(int) " + INDEX,
        "int daysLeft(int) " + INDEX,
        "int stoppedFor(int) " + INDEX,
        "int priceOf(int) " + INDEX,
        "int hanging(int) " + INDEX,
        "int depthOf(int) " + INDEX,
        "int textLength(int) " + INDEX,
        "int sealOf(int) " + INDEX,
        "int owes(int) " + INDEX,
        "int balance(int, int) " + INDEX,
        "int weakest()",
        "int daysUntilFailed(int) " + INDEX,
        "int purseIn(int, int) " + INDEX + " " + ARGUMENT,
        "int bestToPay(int) " + INDEX,
        "double meanPurse()",
        "long digest()",
    };

    private FaceTest() {
    }

    public static void main(String[] args) {
        Due due = new Due();
        Class<?> desk = PactClocks.class;
        due.holds("the class is public and final",
                Modifier.isPublic(desk.getModifiers()) && Modifier.isFinal(desk.getModifiers()));
        due.holds("the class has no class above it but Object",
                desk.getSuperclass() == Object.class && desk.getInterfaces().length == 0);
        constructors(due, desk);
        methods(due, desk);
        fields(due, desk);
        for (Class<?> inside : desk.getDeclaredClasses()) {
            int how = inside.getModifiers();
            due.holds(inside + " is static, and private or package-visible",
                    Modifier.isStatic(how) && !Modifier.isPublic(how) && !Modifier.isProtected(how));
        }
        due.end(0, -1);
    }

    private static void constructors(Due due, Class<?> desk) {
        Constructor<?>[] all = desk.getDeclaredConstructors();
        due.holds("there is one public constructor without arguments",
                all.length == 1 && Modifier.isPublic(all[0].getModifiers())
                && all[0].getParameterCount() == 0);
    }

    private static void methods(Due due, Class<?> desk) {
        List<String> want = new ArrayList<>(Arrays.asList(FACE));
        List<String> got = new ArrayList<>();
        List<String> names = new ArrayList<>();
        for (Method method : desk.getDeclaredMethods()) {
            if (!Modifier.isPrivate(method.getModifiers())) {
                got.add(signature(method));
                names.add(method.getName());
                due.holds(method + " is public and not static",
                        Modifier.isPublic(method.getModifiers())
                        && !Modifier.isStatic(method.getModifiers()));
            }
        }
        Collections.sort(want);
        Collections.sort(got);
        due.holds("the methods are " + got + ", due are " + want, got.equals(want));
        for (Method method : desk.getDeclaredMethods()) {
            due.holds(method + " bears no public name",
                    !Modifier.isPrivate(method.getModifiers()) || !names.contains(method.getName()));
        }
    }

    private static void fields(Due due, Class<?> desk) {
        for (Field field : desk.getDeclaredFields()) {
            due.holds(field + " is private", Modifier.isPrivate(field.getModifiers()));
            due.holds(field + " is no static state",
                    !Modifier.isStatic(field.getModifiers()) || Modifier.isFinal(field.getModifiers()));
        }
    }

    private static String signature(Method method) {
        StringBuilder text = new StringBuilder();
        text.append(method.getReturnType()).append(' ').append(method.getName()).append('(');
        Class<?>[] types = method.getParameterTypes();
        for (int i = 0; i < types.length; i++) {
            text.append(i == 0 ? "" : ", ").append(types[i]);
        }
        text.append(')');
        for (Class<?> exception : method.getExceptionTypes()) {
            text.append(' ').append(exception.getSimpleName());
        }
        return text.toString();
    }
}
