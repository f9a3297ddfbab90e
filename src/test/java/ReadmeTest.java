import java.io.IOException;
import java.lang.reflect.Method;
import java.lang.reflect.Modifier;
import java.nio.file.Files;
import java.nio.file.Path;
import java.util.Arrays;
import java.util.regex.Matcher;
import java.util.regex.Pattern;

/** README.md says how to use the class: each call that it shows answers what stands beside it. */
public final class ReadmeTest {
    private static final Pattern SHOWN =
            Pattern.compile("^desk\\.(\\w+)\\(([^)]*)\\);\\s*// (-?\\d+|true|false)\\b.*$");

    private static int shown = 0;
    private static int wrong = 0;

    private static void must(String what, boolean holds) {
        if (!holds) {
            wrong++;
            System.out.println("README.md: " + what);
        }
    }

    public static void main(String[] args) throws IOException, ReflectiveOperationException {
        String text = Files.readString(Path.of("README.md"));
        PlaneDesk desk = new PlaneDesk();
        for (String line : text.split("\n")) {
            if (line.startsWith("desk.")) {
                lookAt(desk, line);
            }
        }
        must("shows no call", shown > 0);
        for (Method method : PlaneDesk.class.getDeclaredMethods()) {
            if (Modifier.isPublic(method.getModifiers())) {
                must("does not tell " + method.getName(), text.contains("`" + method.getName() + "("));
            }
        }
        must("does not tell how the tests are run", text.contains("\n.ci/run\n"));
        System.out.println(shown + " calls of README.md looked at, " + wrong + " wrong");
        if (wrong != 0) {
            System.exit(1);
        }
    }

    private static void lookAt(PlaneDesk desk, String line) throws ReflectiveOperationException {
        Matcher parts = SHOWN.matcher(line);
        if (!parts.matches()) {
            must("a call without its answer: " + line, false);
            return;
        }
        shown++;
        String answer = String.valueOf(call(desk, parts.group(1), numbers(parts.group(2))));
        must(line + " answers " + answer, answer.equals(parts.group(3)));
    }

    private static Object[] numbers(String list) {
        if (list.isBlank()) {
            return new Object[0];
        }
        return Arrays.stream(list.split(",")).map(String::trim).map(Integer::valueOf).toArray();
    }

    private static Object call(PlaneDesk desk, String name, Object[] takes) throws ReflectiveOperationException {
        Class<?>[] types = new Class<?>[takes.length];
        Arrays.fill(types, int.class);
        return PlaneDesk.class.getMethod(name, types).invoke(desk, takes);
    }
}
