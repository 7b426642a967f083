import java.lang.reflect.Constructor;
import java.lang.reflect.Field;
import java.lang.reflect.Method;
import java.lang.reflect.Modifier;
import java.util.Arrays;
import java.util.TreeSet;

/** The public face: its constants with their values, the constructor, the methods, and nothing else to be seen. */
public final class FaceTest {
    private static final String[] CONSTANTS = {
        "FREE=0", "RUNNING=1", "WAITING=2", "VICTIM=3",
        "REFUSED=0", "GRANTED=1", "QUEUED=2", "RELEASED=3", "WITHDRAWN=4",
        "NONE=-1", "MAX_TRANSACTIONS=8", "MAX_LOCKS=12", "MAX_SITES=4", "MAX_PRIORITY=99",
    };

    private static final String[] METHODS = {
        "boolean begin[int, int]", "int request[int, int]", "int drop[int, int]", "boolean commit[int]",
        "boolean abort[int]", "int report[int]", "int settle[]", "int state[int]", "int priority[int]",
        "int holder[int]", "int waiter[int, int]", "boolean reported[int, int]", "int waitsFor[int, int]",
        "boolean carries[int, int]", "int victims[]", "int victim[int]",
    };

    public static void main(String[] args) throws IllegalAccessException {
        Due.is("the class is public and final", Modifier.toString(ProbeDeadlock.class.getModifiers()), "public final");
        Due.is("nested classes", ProbeDeadlock.class.getDeclaredClasses().length, 0);
        Due.is("constants", constants().toString(), sorted(CONSTANTS).toString());
        Due.is("methods", methods().toString(), sorted(METHODS).toString());
        Constructor<?>[] constructors = ProbeDeadlock.class.getDeclaredConstructors();
        Due.is("constructors", constructors.length, 1);
        Due.is("constructor", constructors[0].toString(), "public ProbeDeadlock(int,int,int)");
        Due.end();
    }

    private static TreeSet<String> sorted(String[] names) {
        return new TreeSet<>(Arrays.asList(names));
    }

    private static TreeSet<String> constants() throws IllegalAccessException {
        TreeSet<String> found = new TreeSet<>();
        for (Field field : ProbeDeadlock.class.getDeclaredFields()) {
            if (!Modifier.isPrivate(field.getModifiers())) {
                Due.is(field.getName(), field.toString(), "public static final int ProbeDeadlock." + field.getName());
                found.add(field.getName() + "=" + field.getInt(null));
            }
        }
        return found;
    }

    private static TreeSet<String> methods() {
        TreeSet<String> found = new TreeSet<>();
        for (Method method : ProbeDeadlock.class.getDeclaredMethods()) {
            if (!Modifier.isPrivate(method.getModifiers())) {
                Due.is(method.getName(), Modifier.toString(method.getModifiers()), "public");
                String parameters = Arrays.toString(method.getParameterTypes());
                found.add(method.getReturnType() + " " + method.getName() + parameters);
            }
        }
        return found;
    }
}
