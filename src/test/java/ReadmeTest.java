import java.lang.reflect.Method;
import java.lang.reflect.Modifier;
import java.nio.file.Files;
import java.nio.file.Path;
import java.util.Arrays;
import java.util.regex.Matcher;
import java.util.regex.Pattern;

/** README.md: its example answers as it says, and every call of the face is told of. */
public final class ReadmeTest {
    private static final Pattern CALL = Pattern.compile("^mover\\.([a-z]+)\\((.*)\\); *// (-?[0-9]+)(:.*)?$");

    public static void main(String[] args) throws Exception {
        String text = Files.readString(Path.of("README.md"));
        LateMover mover = new LateMover();
        int calls = 0;
        for (String line : text.split("\n")) {
            Matcher m = CALL.matcher(line);
            if (m.matches()) {
                calls++;
                Subject.due("README.md: " + line, answer(mover, m.group(1), m.group(2)), Long.parseLong(m.group(3)));
            } else {
                Subject.due("README.md, a call without its answer: " + line, line.startsWith("mover."), false);
            }
        }
        Subject.due("calls in README.md's example", calls > 10, true);
        for (Method method : LateMover.class.getDeclaredMethods()) {
            boolean told = text.contains("`" + method.getName() + "`");
            Subject.due("README.md tells of " + method.getName(), told || !Modifier.isPublic(method.getModifiers()), true);
        }
        Subject.finish("ReadmeTest");
    }

    private static long answer(LateMover mover, String name, String list) throws Exception {
        String[] parts = list.isEmpty() ? new String[0] : list.split(", *");
        Class<?>[] types = new Class<?>[parts.length];
        Arrays.fill(types, int.class);
        Object[] values = new Object[parts.length];
        for (int i = 0; i < parts.length; i++) {
            values[i] = Long.decode(parts[i]).intValue();
        }
        return ((Number) LateMover.class.getMethod(name, types).invoke(mover, values)).longValue();
    }
}
