import java.lang.reflect.Constructor;
import java.lang.reflect.Field;
import java.lang.reflect.Method;
import java.lang.reflect.Modifier;
import java.util.Arrays;
import java.util.TreeSet;

/** The public face of the document, no more and no less. */
public final class FaceTest {
    private static final String[] FACE = {
        "push/1", "pop/1", "repeat/2", "set/2", "reverse/0", "length/0", "symbol/1", "runs/0",
        "start/1", "end/1", "period/1", "runsAt/1", "squaresFrom/1", "squares/0", "periodOf/2",
        "longest/0", "power/0", "common/2", "nextSmaller/1"
    };

    public static void main(String[] args) {
        Check.due("modifiers of the class", RunsFinder.class.getModifiers(),
                Modifier.PUBLIC | Modifier.FINAL);
        methods();
        constructors();
        fields();
        Check.due("nested classes", RunsFinder.class.getDeclaredClasses().length, 0);
        Check.finish();
    }

    private static void methods() {
        TreeSet<String> found = new TreeSet<>();
        for (Method method : RunsFinder.class.getDeclaredMethods()) {
            if (Modifier.isPrivate(method.getModifiers())) {
                continue;
            }
            String name = method.getName() + "/" + method.getParameterCount();
            found.add(name);
            Check.due("modifiers of " + name, method.getModifiers(), Modifier.PUBLIC);
            Check.due("int answered by " + name, method.getReturnType() == int.class ? 1 : 0, 1);
            for (Class<?> type : method.getParameterTypes()) {
                Check.due("int taken by " + name, type == int.class ? 1 : 0, 1);
            }
        }
        TreeSet<String> due = new TreeSet<>(Arrays.asList(FACE));
        Check.due("methods " + found + " are those of the document", found.equals(due) ? 1 : 0, 1);
    }

    private static void constructors() {
        Constructor<?>[] found = RunsFinder.class.getDeclaredConstructors();
        Check.due("constructors", found.length, 1);
        Check.due("modifiers of the constructor", found[0].getModifiers(), Modifier.PUBLIC);
        Check.due("parameters of the constructor", found[0].getParameterCount(), 0);
    }

    private static void fields() {
        for (Field field : RunsFinder.class.getDeclaredFields()) {
            Check.due("private field " + field.getName(),
                    Modifier.isPrivate(field.getModifiers()) ? 1 : 0, 1);
        }
    }
}
