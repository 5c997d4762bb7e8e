import java.lang.reflect.Constructor;
import java.lang.reflect.Field;
import java.lang.reflect.Method;
import java.lang.reflect.Modifier;
import java.util.Arrays;
import java.util.TreeSet;

/** The public face: just the constants, the constructor and the methods of the document. */
public final class FaceTest {
    private static final String[] METHODS = {
        "int copy(int,int,int)", "int crash()", "int cut(int,int,int)", "int damage(int)",
        "int drop(int,int)", "int info(int)", "int mount()", "int move(int,int)",
        "int revert(int,int)", "int shared(int,int,int)", "int snapshot(int,int)",
        "int swap(int,int,int)", "int sync(int)", "int used()", "int write(int,int,int,int)",
        "long read(int,int,int,int)",
    };
    private static final String[] CONSTANTS = {
        "int EXISTS", "int FULL", "int MISSING", "int REFUSED", "long HOLE", "long NONE",
    };

    public static void main(String[] args) {
        Class<?> face = CowContainer.class;
        Due.holds("the class is public and final",
            Modifier.isPublic(face.getModifiers()) && Modifier.isFinal(face.getModifiers()));
        Due.holds("the class has no other class inside", face.getDeclaredClasses().length == 0);
        Due.holds("the class extends nothing",
            face.getSuperclass() == Object.class && face.getInterfaces().length == 0);
        constants();
        methods(face);
        fields(face);
        constructors(face);
        Due.end();
    }

    private static void constants() {
        Due.same("REFUSED", CowContainer.REFUSED, -1);
        Due.same("MISSING", CowContainer.MISSING, -2);
        Due.same("EXISTS", CowContainer.EXISTS, -3);
        Due.same("FULL", CowContainer.FULL, -4);
        Due.same("HOLE", CowContainer.HOLE, 4294967296L);
        Due.same("NONE", CowContainer.NONE, 4294967297L);
    }

    private static void methods(Class<?> face) {
        TreeSet<String> open = new TreeSet<>();
        for (Method method : face.getDeclaredMethods()) {
            if (Modifier.isPublic(method.getModifiers())) {
                String types = Arrays.toString(Arrays.stream(method.getParameterTypes())
                    .map(Class::getName).toArray());
                String inner = types.substring(1, types.length() - 1).replace(", ", ",");
                open.add(method.getReturnType() + " " + method.getName() + "(" + inner + ")");
                Due.holds(method + " is not static", !Modifier.isStatic(method.getModifiers()));
            } else {
                Due.holds(method + " is private", Modifier.isPrivate(method.getModifiers()));
            }
        }
        Due.holds("the public methods are those of the document, not " + open,
            open.equals(new TreeSet<>(Arrays.asList(METHODS))));
    }

    private static void fields(Class<?> face) {
        TreeSet<String> open = new TreeSet<>();
        for (Field field : face.getDeclaredFields()) {
            int modifiers = field.getModifiers();
            if (Modifier.isPublic(modifiers)) {
                open.add(field.getType() + " " + field.getName());
                Due.holds(field + " is a constant", Modifier.isStatic(modifiers) && Modifier.isFinal(modifiers));
            } else {
                Due.holds(field + " is private", Modifier.isPrivate(modifiers));
            }
        }
        Due.holds("the public constants are those of the document, not " + open,
            open.equals(new TreeSet<>(Arrays.asList(CONSTANTS))));
    }

    private static void constructors(Class<?> face) {
        Constructor<?>[] all = face.getDeclaredConstructors();
        Due.holds("there is one constructor, public, of an int", all.length == 1
            && Modifier.isPublic(all[0].getModifiers())
            && Arrays.equals(all[0].getParameterTypes(), new Class<?>[] {int.class}));
    }
}
