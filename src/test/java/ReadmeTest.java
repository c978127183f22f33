import java.io.IOException;
import java.lang.reflect.Method;
import java.lang.reflect.Modifier;
import java.nio.file.Files;
import java.nio.file.Path;
import java.util.Set;
import java.util.TreeSet;
import java.util.regex.Matcher;
import java.util.regex.Pattern;

/** What README.md shows of the calls: each line of its example answers what stands behind it, and no call is left out. */
public final class ReadmeTest {
    private static final Pattern NEW = Pattern.compile("FlowDesk desk = new FlowDesk\\(\\);");
    private static final Pattern TYPED = Pattern.compile("type\\(desk, \"(.*)\"\\);");
    private static final Pattern ASKED = Pattern.compile("desk\\.(\\w+)\\((.*)\\); *// (-?\\w+): .*");

    public static void main(String[] args) throws IOException, ReflectiveOperationException {
        Set<String> shown = new TreeSet<>();
        FlowDesk desk = null;
        for (String line : Files.readAllLines(Path.of("README.md"))) {
            Matcher typed = TYPED.matcher(line);
            Matcher asked = ASKED.matcher(line);
            if (NEW.matcher(line).matches()) {
                desk = new FlowDesk();
            } else if (typed.matches()) {
                Check.type(desk, typed.group(1).replace("\\\\", "\\"));
            } else if (asked.matches()) {
                Check.due("README.md: " + line, answer(desk, asked.group(1), asked.group(2)), Long.decode(asked.group(3)));
                shown.add(asked.group(1));
            } else if (line.startsWith("desk.")) {
                Check.due("README.md", line, "a call with its answer behind it");
            }
        }
        Check.due("calls that README.md shows", shown.toString(), face().toString());
        Check.end();
    }

    private static Set<String> face() {
        Set<String> names = new TreeSet<>();
        for (Method method : FlowDesk.class.getDeclaredMethods()) {
            if (Modifier.isPublic(method.getModifiers())) {
                names.add(method.getName());
            }
        }
        return names;
    }

    private static long answer(FlowDesk desk, String name, String list) throws ReflectiveOperationException {
        String[] written = list.isEmpty() ? new String[0] : list.split(", ");
        for (Method method : FlowDesk.class.getMethods()) {
            if (method.getName().equals(name) && method.getParameterCount() == written.length) {
                Object[] given = new Object[written.length];
                for (int i = 0; i < given.length; i++) {
                    long number = Long.decode(written[i].replace("L", ""));
                    boolean isLong = method.getParameterTypes()[i] == long.class;
                    given[i] = isLong ? (Object) number : (Object) (int) number;
                }
                return ((Number) method.invoke(desk, given)).longValue();
            }
        }
        throw new NoSuchMethodException(name);
    }
}
