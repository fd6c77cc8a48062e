import java.io.IOException;
import java.lang.reflect.Method;
import java.nio.file.Files;
import java.nio.file.Path;
import java.util.Set;
import java.util.TreeSet;
import java.util.regex.Matcher;
import java.util.regex.Pattern;

/** What README.md tells: its example has every call of the face, and the answers that it says. */
final class ReadmeTest {
    private static final Pattern CALL = Pattern.compile("room\\.(\\w+)\\((-?\\d+)(?:, (-?\\d+))?\\);\\s*// (-?\\d+)\\b.*");
    private static final Checks CHECKS = new Checks();

    public static void main(String[] args) throws IOException, ReflectiveOperationException {
        Set<String> told = new TreeSet<>();
        OrderedRoom room = new OrderedRoom();
        for (String line : Files.readAllLines(Path.of("README.md"))) {
            Matcher call = CALL.matcher(line);
            if (call.matches()) {
                told.add(call.group(1));
                CHECKS.due(line, answer(room, call), Integer.parseInt(call.group(4)));
            } else {
                CHECKS.due("a call without its answer: " + line, line.startsWith("room.") ? 1 : 0, 0);
            }
        }
        CHECKS.due("calls in the example", told.toString(), face().toString());
        CHECKS.finish();
    }

    private static int answer(OrderedRoom room, Matcher call) throws ReflectiveOperationException {
        int first = Integer.parseInt(call.group(2));
        if (call.group(3) == null) {
            return (int) OrderedRoom.class.getMethod(call.group(1), int.class).invoke(room, first);
        }
        int second = Integer.parseInt(call.group(3));
        return (int) OrderedRoom.class.getMethod(call.group(1), int.class, int.class).invoke(room, first, second);
    }

    private static Set<String> face() {
        Set<String> names = new TreeSet<>();
        for (Method method : OrderedRoom.class.getMethods()) {
            if (method.getDeclaringClass() == OrderedRoom.class) {
                names.add(method.getName());
            }
        }
        return names;
    }
}
