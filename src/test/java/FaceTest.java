import java.lang.reflect.Constructor;
import java.lang.reflect.Field;
import java.lang.reflect.Method;
import java.lang.reflect.Modifier;
import java.util.Set;
import java.util.TreeSet;

/** The public face is the document's, to the letter, and there is no other. */
public final class FaceTest {
    private static final Check CHECK = new Check();
    private static final String BOUNDS = " IndexOutOfBoundsException";
    private static final String ARGUMENT = " IllegalArgumentException";
    private static final String STATE = " IllegalStateException";
    private static final Set<String> WANT = Set.of(
            "int shape(int,int,int,int)" + ARGUMENT + STATE,
            "int object(int,int,boolean)" + BOUNDS + ARGUMENT + STATE,
            "int array(int,int,boolean)" + BOUNDS + ARGUMENT + STATE,
            "int text(int,int,boolean)" + BOUNDS + ARGUMENT + STATE,
            "int closure(int,int,int,int)" + BOUNDS + ARGUMENT + STATE,
            "long put(int,int,long)" + BOUNDS + ARGUMENT,
            "long get(int,int)" + BOUNDS + ARGUMENT,
            "void link(int,int,int)" + BOUNDS + ARGUMENT,
            "void follow(int,int,int)" + BOUNDS + ARGUMENT,
            "void hold(int,int)" + BOUNDS,
            "int told(int,int)" + BOUNDS + ARGUMENT,
            "int collect()",
            "int every(int)" + ARGUMENT,
            "int made()",
            "int audit()");

    public static void main(String[] args) {
        methods();
        everythingElseIsPrivate();
        CHECK.end("FaceTest");
    }

    private static void methods() {
        Set<String> got = new TreeSet<>();
        for (Method m : MovingHeap.class.getDeclaredMethods()) {
            if (!Modifier.isPrivate(m.getModifiers())) {
                got.add(told(m));
            } else {
                CHECK.due("private " + m.getName() + " bears a public name", isPublicName(m), 0);
            }
        }
        for (String method : WANT) {
            CHECK.due("there is " + method, got.contains(method) ? 1 : 0, 1);
        }
        for (String method : got) {
            CHECK.due("in the document: " + method, WANT.contains(method) ? 1 : 0, 1);
        }
    }

    private static String told(Method m) {
        StringBuilder text = new StringBuilder(m.getReturnType().getSimpleName());
        text.append(' ').append(m.getName()).append('(');
        String comma = "";
        for (Class<?> type : m.getParameterTypes()) {
            text.append(comma).append(type.getSimpleName());
            comma = ",";
        }
        text.append(')');
        for (Class<?> type : m.getExceptionTypes()) {
            text.append(' ').append(type.getSimpleName());
        }
        return text.toString();
    }

    private static int isPublicName(Method m) {
        for (String method : WANT) {
            if (method.contains(" " + m.getName() + "(")) {
                return 1;
            }
        }
        return 0;
    }

    private static void everythingElseIsPrivate() {
        Class<?> c = MovingHeap.class;
        CHECK.due("public final", c.getModifiers(), Modifier.PUBLIC | Modifier.FINAL);
        Constructor<?>[] constructors = c.getDeclaredConstructors();
        CHECK.due("one constructor", constructors.length, 1);
        CHECK.due("without parameters", constructors[0].getParameterCount(), 0);
        CHECK.due("public", constructors[0].getModifiers(), Modifier.PUBLIC);
        for (Field f : c.getDeclaredFields()) {
            CHECK.due("private " + f.getName(), Modifier.isPrivate(f.getModifiers()) ? 1 : 0, 1);
        }
        for (Class<?> inside : c.getDeclaredClasses()) {
            CHECK.due("static " + inside, Modifier.isStatic(inside.getModifiers()) ? 1 : 0, 1);
            CHECK.due("not public " + inside, Modifier.isPublic(inside.getModifiers()) ? 1 : 0, 0);
        }
    }
}
