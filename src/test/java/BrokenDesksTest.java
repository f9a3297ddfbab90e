import java.io.ByteArrayOutputStream;
import java.io.IOException;
import java.io.InputStream;
import java.io.OutputStream;
import java.lang.reflect.Method;
import java.net.URI;
import java.nio.file.Files;
import java.nio.file.Path;
import java.util.HashMap;
import java.util.List;
import java.util.Map;
import java.util.Set;
import java.util.TreeSet;
import javax.tools.FileObject;
import javax.tools.ForwardingJavaFileManager;
import javax.tools.JavaCompiler;
import javax.tools.JavaFileManager;
import javax.tools.JavaFileObject;
import javax.tools.SimpleJavaFileObject;
import javax.tools.ToolProvider;

/**
 * Shows that the boundary tests would fail if their sentences were broken: the program's text is broken in one place
 * at a time (Breaks), compiled in memory, and the tests that the break names must fail on it. A break whose text is no
 * longer in the program is told, but is no fault of the program.
 */
public final class BrokenDesksTest {
    private static int wrong = 0;
    private static int gone = 0;

    private BrokenDesksTest() {
    }

    public static void main(String[] args) throws IOException {
        JavaCompiler compiler = ToolProvider.getSystemJavaCompiler();
        if (compiler == null) {
            System.out.println("there is no compiler in this Java: no desk was broken");
            return;
        }
        Path file = Path.of(args.length > 0 ? args[0] : "src/main/java/PlaneDesk.java");
        String text = flat(Files.readString(file));
        List<Break> breaks = Breaks.all();
        for (Break one : breaks) {
            check(compiler, text, one);
        }
        checkThatAllAreNamed(breaks);
        System.out.println(breaks.size() + " desks broken, " + gone + " of them no longer found, " + wrong + " wrong");
        if (wrong != 0) {
            System.exit(1);
        }
    }

    /** Without comments, in one line, so that a break needs no care for how lines are broken. */
    private static String flat(String text) {
        return text.replaceAll("(?s)/\\*.*?\\*/", "").replaceAll("//[^\n]*", "").replaceAll("\\s+", " ");
    }

    private static void fail(Break one, String what) {
        wrong++;
        System.out.println("\"" + one.text() + "\" as \"" + one.instead() + "\": " + what);
    }

    private static void check(JavaCompiler compiler, String text, Break one) {
        int at = text.indexOf(one.text());
        if (at < 0) {
            gone++;
            System.out.println("no longer in the program: \"" + one.text() + "\"");
            return;
        }
        if (text.indexOf(one.text(), at + 1) >= 0) {
            fail(one, "it stands in the program more than once");
            return;
        }
        Map<String, byte[]> classes = compile(compiler, text.replace(one.text(), one.instead()));
        if (classes.isEmpty()) {
            fail(one, "it does not compile");
            return;
        }
        Set<String> failing = failingTests(classes);
        for (String test : one.tests()) {
            if (!failing.contains(test)) {
                fail(one, test + " does not fail");
            }
        }
    }

    private static void checkThatAllAreNamed(List<Break> breaks) {
        Set<String> left = new TreeSet<>(BoundariesTest.runAll().keySet());
        for (Break one : breaks) {
            left.removeAll(one.tests());
        }
        for (String test : left) {
            wrong++;
            System.out.println("no break shows that " + test + " can fail");
        }
    }

    private static Map<String, byte[]> compile(JavaCompiler compiler, String text) {
        Memory memory = new Memory(compiler.getStandardFileManager(null, null, null));
        boolean done = compiler.getTask(null, memory, null, null, null, List.of(new Source(text))).call();
        Map<String, byte[]> classes = new HashMap<>();
        if (done) {
            memory.made.forEach((name, bytes) -> classes.put(name, bytes.toByteArray()));
        }
        return classes;
    }

    private static Set<String> failingTests(Map<String, byte[]> classes) {
        Set<String> failing = new TreeSet<>();
        try {
            Method all = new Loader(classes).loadClass("BoundariesTest").getDeclaredMethod("runAll");
            all.setAccessible(true);
            for (Map.Entry<?, ?> found : ((Map<?, ?>) all.invoke(null)).entrySet()) {
                if (!((List<?>) found.getValue()).isEmpty()) {
                    failing.add((String) found.getKey());
                }
            }
        } catch (ReflectiveOperationException e) {
            throw new IllegalStateException("the boundary tests can't be run on a broken desk", e);
        }
        return failing;
    }

    /** The broken text, as if it were a file. */
    private static final class Source extends SimpleJavaFileObject {
        private final String text;

        Source(String text) {
            super(URI.create("memory:///PlaneDesk.java"), Kind.SOURCE);
            this.text = text;
        }

        @Override
        public CharSequence getCharContent(boolean ignoring) {
            return text;
        }
    }

    /** Keeps what is compiled instead of writing it to files. */
    private static final class Memory extends ForwardingJavaFileManager<JavaFileManager> {
        private final Map<String, ByteArrayOutputStream> made = new HashMap<>();

        Memory(JavaFileManager files) {
            super(files);
        }

        @Override
        public JavaFileObject getJavaFileForOutput(
                Location at, String name, JavaFileObject.Kind kind, FileObject sibling) {
            return new SimpleJavaFileObject(URI.create("memory:///" + name + ".class"), kind) {
                @Override
                public OutputStream openOutputStream() {
                    ByteArrayOutputStream bytes = new ByteArrayOutputStream();
                    made.put(name, bytes);
                    return bytes;
                }
            };
        }
    }

    /** Takes the program's classes from memory, and loads the tests anew so that they use these. */
    private static final class Loader extends ClassLoader {
        private final Map<String, byte[]> classes;

        Loader(Map<String, byte[]> classes) {
            super(ClassLoader.getPlatformClassLoader());
            this.classes = classes;
        }

        @Override
        protected Class<?> findClass(String name) throws ClassNotFoundException {
            byte[] bytes = classes.containsKey(name) ? classes.get(name) : testClass(name);
            return defineClass(name, bytes, 0, bytes.length);
        }

        private static byte[] testClass(String name) throws ClassNotFoundException {
            try (InputStream in = ClassLoader.getSystemResourceAsStream(name + ".class")) {
                if (in == null) {
                    throw new ClassNotFoundException(name);
                }
                return in.readAllBytes();
            } catch (IOException e) {
                throw new ClassNotFoundException(name, e);
            }
        }
    }
}
