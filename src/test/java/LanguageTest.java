import java.io.IOException;
import java.lang.management.ManagementFactory;
import java.lang.reflect.Constructor;
import java.lang.reflect.Field;
import java.lang.reflect.Method;
import java.lang.reflect.Modifier;
import java.nio.file.Files;
import java.nio.file.Path;
import java.util.ArrayList;
import java.util.List;
import java.util.Set;
import java.util.TreeSet;
import java.util.regex.Matcher;
import java.util.regex.Pattern;

/** The rules of the language that can be seen in the text and in the class, and the room that a desk takes. */
public final class LanguageTest {
    private static final String[] FACE = {
        "boolean cut(int)", "boolean draw()", "boolean graph(int)", "boolean swap(int,int,int)",
        "int about(int)", "int at(int,int)", "int colour()", "int colourOf(int)", "int edge(int,int)",
        "int face(int,int)", "int faces()", "int fill()", "int genus()", "int join(int,int)", "int knot(int)",
        "int lay()", "int may(int,int)", "int turn(int,int)"
    };
    private static final String[] BARRED = {
        "\\bthrows?\\b", "\\btry\\b", "\\bcatch\\b", "\\bfinally\\b", "\\bsynchronized\\b", "\\bassert\\b",
        "->", "::", "\\bMath\\.random\\b", "\\bSystem\\.(?!arraycopy\\b)", "\\bThread\\b", "\\bRuntime\\b",
        "\\w+Exact\\b", "\\bObject\\b", "\\bpackage\\b", "\\bextends\\b", "\\bnative\\b", "\\bnull\\b",
        "\\bimport (?!java\\.util\\.(Arrays|ArrayList|List);)", "\\bstatic \\{", "\\bequals\\b", "\\bhashCode\\b"
    };
    private static final long MOST_BYTES_A_DESK = 64 * 1024;

    private static int wrong = 0;

    private static void must(String what, boolean holds) {
        if (!holds) {
            wrong++;
            System.out.println("does not hold: " + what);
        }
    }

    public static void main(String[] args) throws IOException {
        checkFace();
        checkClassesInside();
        checkText(Path.of(args.length > 0 ? args[0] : "src/main/java/PlaneDesk.java"));
        checkRoom();
        System.out.println(wrong == 0 ? "the rules looked at are kept" : wrong + " rules are not kept");
        if (wrong != 0) {
            System.exit(1);
        }
    }

    private static void checkFace() {
        must("public and final", (PlaneDesk.class.getModifiers() & (Modifier.PUBLIC | Modifier.FINAL))
                == (Modifier.PUBLIC | Modifier.FINAL));
        Set<String> found = new TreeSet<>();
        Set<String> hidden = new TreeSet<>();
        for (Method m : PlaneDesk.class.getDeclaredMethods()) {
            if (Modifier.isPublic(m.getModifiers())) {
                List<String> takes = new ArrayList<>();
                for (Class<?> type : m.getParameterTypes()) {
                    takes.add(type.getName());
                }
                found.add(m.getReturnType().getName() + " " + m.getName() + "(" + String.join(",", takes) + ")");
                must("not static: " + m, !Modifier.isStatic(m.getModifiers()));
            } else {
                must("private: " + m, Modifier.isPrivate(m.getModifiers()));
                hidden.add(m.getName());
            }
        }
        must("the methods of the document and no others: " + found, found.equals(Set.of(FACE)));
        for (String face : FACE) {
            String name = face.substring(face.indexOf(' ') + 1, face.indexOf('('));
            must("no private method is called " + name, !hidden.contains(name));
        }
        for (Field f : PlaneDesk.class.getDeclaredFields()) {
            must("private: " + f, f.getName().equals("NONE") || Modifier.isPrivate(f.getModifiers()));
            must("static and not final: " + f,
                    !Modifier.isStatic(f.getModifiers()) || Modifier.isFinal(f.getModifiers()));
        }
        Constructor<?>[] makers = PlaneDesk.class.getDeclaredConstructors();
        must("one public constructor", makers.length == 1 && Modifier.isPublic(makers[0].getModifiers())
                && makers[0].getParameterCount() == 0);
    }

    private static void checkClassesInside() {
        Class<?>[] inside = PlaneDesk.class.getDeclaredClasses();
        must("some twelve classes", inside.length + 1 <= 12);
        for (Class<?> c : inside) {
            must("static: " + c, Modifier.isStatic(c.getModifiers()));
            must("not public: " + c, !Modifier.isPublic(c.getModifiers()) && !Modifier.isProtected(c.getModifiers()));
            must("some twenty fields: " + c, c.getDeclaredFields().length <= 20);
            for (Method m : c.getDeclaredMethods()) {
                must("seven parameters: " + m, m.getParameterCount() <= 7);
            }
        }
    }

    private static void checkText(Path file) throws IOException {
        String text = Files.readString(file);
        String bare = text.replaceAll("(?s)/\\*.*?\\*/", "").replaceAll("//[^\n]*", "");
        for (String barred : BARRED) {
            Matcher m = Pattern.compile(barred).matcher(bare);
            must("no " + barred, !m.find());
        }
        int begun = -1;
        String[] lines = text.split("\n", -1);
        for (int i = 0; i < lines.length; i++) {
            if (lines[i].matches(" {4,8}\\S.*\\) \\{")) {
                begun = i;
            } else if (lines[i].matches(" {4}( {4})?\\}") && begun >= 0) {
                must("sixty lines at most from line " + (begun + 1), i - begun < 60);
                begun = -1;
            }
        }
    }

    /** The room of a desk is taken when it is made: no call makes an object. */
    private static void checkRoom() {
        com.sun.management.ThreadMXBean meter =
                (com.sun.management.ThreadMXBean) ManagementFactory.getThreadMXBean();
        if (!meter.isThreadAllocatedMemorySupported()) {
            return;
        }
        meter.setThreadAllocatedMemoryEnabled(true);
        long self = Thread.currentThread().getId();
        long least = Long.MAX_VALUE;
        for (int i = 0; i < 5; i++) {
            long before = meter.getThreadAllocatedBytes(self);
            PlaneDesk desk = new PlaneDesk();
            long made = meter.getThreadAllocatedBytes(self);
            must("a desk is small: " + (made - before), made - before < MOST_BYTES_A_DESK);
            callAll(desk);
            least = Math.min(least, meter.getThreadAllocatedBytes(self) - made);
        }
        must("no call makes an object: " + least + " bytes", least < 2048);
    }

    private static void callAll(PlaneDesk desk) {
        for (int n = 0; n <= 20; n++) {
            desk.graph(n);
            desk.fill();
            desk.lay();
            desk.swap(n - 1, 0, 1);
            desk.faces();
            desk.face(1, 2);
            desk.genus();
            desk.draw();
            desk.at(2, 0);
            desk.colour();
            desk.colourOf(1);
            desk.cut(2);
            desk.may(0, 1);
            desk.about(2);
            desk.about(5);
            desk.edge(3, 2);
            for (int v = 1; v < n; v++) {
                desk.join(v, (v * 7 + 3) % n);
            }
            desk.lay();
            desk.knot(100);
        }
    }
}
