import java.lang.reflect.Constructor;
import java.lang.reflect.Field;
import java.lang.reflect.Method;
import java.lang.reflect.Modifier;
import java.util.Arrays;
import java.util.Set;
import java.util.TreeSet;

/** The public face, and the rules of LANGUAGE.md that a compiled class shows. */
final class FaceTest {
    private static final Checks CHECKS = new Checks();

    public static void main(String[] args) {
        Class<?> face = OrderedRoom.class;
        CHECKS.due("class", Modifier.toString(face.getModifiers()), "public final");
        CHECKS.due("nested classes", face.getDeclaredClasses().length, 0);
        Constructor<?>[] constructors = face.getDeclaredConstructors();
        CHECKS.due("constructors", Arrays.toString(constructors), "[public OrderedRoom()]");
        methods(face);
        fields(face);
        CHECKS.finish();
    }

    private static void methods(Class<?> face) {
        Set<String> seen = new TreeSet<>();
        Set<String> publicNames = new TreeSet<>();
        for (Method method : face.getDeclaredMethods()) {
            if (!Modifier.isPrivate(method.getModifiers())) {
                seen.add(method.toString().replace("OrderedRoom.", ""));
                publicNames.add(method.getName());
            }
        }
        Set<String> want = new TreeSet<>(Arrays.asList(
                "public int write(int)", "public int tick(int)", "public int take(int,int)",
                "public int waiting(int,int)", "public int clock(int)", "public int count(int)",
                "public int read(int,int)", "public int held(int)", "public int agree(int,int)"));
        CHECKS.due("methods", seen.toString(), want.toString());
        for (Method method : face.getDeclaredMethods()) {
            if (Modifier.isPrivate(method.getModifiers())) {
                CHECKS.due("private " + method.getName() + " named as a public one",
                        publicNames.contains(method.getName()) ? 1 : 0, 0);
                CHECKS.due("more than seven parameters of " + method.getName(),
                        method.getParameterCount() > 7 ? 1 : 0, 0);
            }
        }
    }

    private static void fields(Class<?> face) {
        for (Field field : face.getDeclaredFields()) {
            CHECKS.due("private " + field.getName(), Modifier.isPrivate(field.getModifiers()) ? 1 : 0, 1);
            Class<?> type = field.getType().isArray() ? field.getType().getComponentType() : field.getType();
            boolean number = type.isPrimitive() && type != float.class && type != double.class;
            CHECKS.due("number type of " + field.getName(), number ? 1 : 0, 1);
            if (Modifier.isStatic(field.getModifiers())) {
                boolean constant = Modifier.isFinal(field.getModifiers())
                        && (field.getType() == int.class || field.getType() == long.class);
                CHECKS.due("constant " + field.getName(), constant ? 1 : 0, 1);
            }
        }
    }
}
