import java.io.IOException;
import java.lang.management.ManagementFactory;
import java.lang.reflect.Constructor;
import java.lang.reflect.Executable;
import java.lang.reflect.Field;
import java.lang.reflect.Method;
import java.lang.reflect.Modifier;
import java.nio.charset.StandardCharsets;
import java.nio.file.Files;
import java.nio.file.Path;
import java.util.List;
import java.util.Set;
import java.util.TreeSet;
import java.util.regex.Matcher;
import java.util.regex.Pattern;

/** The public face, the rules of LANGUAGE.md that can be seen from outside, and the room. */
public final class FaceTest {
    private static final Check CHECK = new Check("FaceTest");
    private static final Path SOURCE = Path.of("src/main/java/BurstBounds.java");

    public static void main(String[] args) throws IOException {
        constants();
        members();
        inside();
        words(Files.readString(SOURCE, StandardCharsets.US_ASCII));
        room();
        CHECK.end();
    }

    private static void constants() {
        CHECK.due("UNKNOWN", BurstBounds.UNKNOWN, -1);
        CHECK.due("OUTSIDE", BurstBounds.OUTSIDE, -2);
        CHECK.due("STATE", BurstBounds.STATE, -3);
        CHECK.due("FULL", BurstBounds.FULL, -4);
        CHECK.due("NONE", BurstBounds.NONE, -9);
        CHECK.due("LOST", BurstBounds.LOST, Long.MIN_VALUE);
    }

    private static void members() {
        Class<?> c = BurstBounds.class;
        CHECK.holds("public and final", c.getModifiers() == (Modifier.PUBLIC | Modifier.FINAL));
        CHECK.holds("nothing above it", c.getSuperclass() == Object.class && c.getInterfaces().length == 0);
        Set<String> face = new TreeSet<>();
        for (Method m : c.getDeclaredMethods()) {
            if (Modifier.isPrivate(m.getModifiers())) {
                continue;
            }
            face.add(m.getName() + m.getParameterCount());
            CHECK.holds(m + " is public", m.getModifiers() == Modifier.PUBLIC);
            CHECK.holds(m + " answers as told", m.getReturnType() == (m.getName().equals("cell") ? long.class : int.class));
            for (Class<?> p : m.getParameterTypes()) {
                CHECK.holds(m + " takes ints", p == int.class);
            }
        }
        CHECK.holds("the face " + face, face.equals(new TreeSet<>(Set.of(Calls.FACE.split(" ")))));
        Constructor<?>[] constructors = c.getDeclaredConstructors();
        CHECK.due("constructors", constructors.length, 1);
        CHECK.holds("its constructor", constructors[0].getModifiers() == Modifier.PUBLIC
                && constructors[0].getParameterCount() == 0);
        Set<String> constants = new TreeSet<>();
        for (Field f : c.getDeclaredFields()) {
            if (!Modifier.isPrivate(f.getModifiers())) {
                constants.add(f.getName());
            }
        }
        CHECK.holds("the constants " + constants,
                constants.equals(Set.of("UNKNOWN", "OUTSIDE", "STATE", "FULL", "NONE", "LOST")));
    }

    private static void inside() {
        List<String> names = Calls.names();
        Class<?>[] classes = BurstBounds.class.getDeclaredClasses();
        CHECK.holds("at most twelve classes", classes.length < 12);
        ofClass(BurstBounds.class);
        for (Class<?> c : classes) {
            CHECK.holds(c + " is static", Modifier.isStatic(c.getModifiers()));
            CHECK.holds(c + " is not seen", (c.getModifiers() & (Modifier.PUBLIC | Modifier.PROTECTED)) == 0);
            CHECK.due(c + " has no classes inside", c.getDeclaredClasses().length, 0);
            for (Method m : c.getDeclaredMethods()) {
                CHECK.holds(m + " bears a name of its own", !names.contains(m.getName()));
            }
            ofClass(c);
        }
        for (Method m : BurstBounds.class.getDeclaredMethods()) {
            CHECK.holds(m + " bears a name of its own",
                    !Modifier.isPrivate(m.getModifiers()) || !names.contains(m.getName()));
        }
    }

    private static void ofClass(Class<?> c) {
        int fields = 0;
        for (Field f : c.getDeclaredFields()) {
            boolean isStatic = Modifier.isStatic(f.getModifiers());
            CHECK.holds(f + " is final", !isStatic || Modifier.isFinal(f.getModifiers()));
            CHECK.holds(f + " is no state", !isStatic || f.getType() == int.class || f.getType() == long.class);
            fields += isStatic ? 0 : 1;
        }
        CHECK.holds(c + " has some twenty fields", fields <= 20);
        for (Method m : c.getDeclaredMethods()) {
            few(m);
        }
        for (Constructor<?> constructor : c.getDeclaredConstructors()) {
            few(constructor);
        }
    }

    private static void few(Executable e) {
        CHECK.holds(e + " takes seven at most", e.getParameterCount() <= 7);
        CHECK.due(e + " declares no exceptions", e.getExceptionTypes().length, 0);
    }

    private static void words(String source) {
        String code = source.replaceAll("(?s)/\\*.*?\\*/", " ").replaceAll("//[^\n]*", " ");
        for (String word : ("throw throws try catch finally synchronized assert package volatile transient native "
                + "protected double float Object Random Thread System.out System.nanoTime var yield").split(" ")) {
            Matcher m = Pattern.compile("(?<![\\w.])" + Pattern.quote(word) + "(?!\\w)").matcher(code);
            CHECK.holds("no " + word, !m.find());
        }
        for (String sign : new String[] {"->", "::", "Exact", "\"", "@", "%", "/", "..."}) {
            CHECK.holds("no " + sign, !code.contains(sign));
        }
        Matcher imports = Pattern.compile("import\\s+([^;]+);").matcher(code);
        while (imports.find()) {
            CHECK.holds(imports.group(1) + " may be used", imports.group(1).equals("java.util.Arrays"));
        }
        Matcher library = Pattern.compile("\\b(System|Arrays|Math|Integer|Long)\\.(\\w+)").matcher(code);
        Set<String> listed = Set.of("System.arraycopy", "Arrays.fill", "Math.min", "Math.max", "Long.MIN_VALUE");
        while (library.find()) {
            CHECK.holds(library.group() + " may be used", listed.contains(library.group()));
        }
        CHECK.holds("no class of another file", !code.contains("extends") && !code.contains("implements"));
    }

    /** Rows are made in constructors alone: 512 of the dearest calls make no objects. */
    private static void room() {
        BurstBounds warm = busy();
        askAll(warm);
        BurstBounds x = busy();
        com.sun.management.ThreadMXBean bean =
                (com.sun.management.ThreadMXBean) ManagementFactory.getThreadMXBean();
        long thread = Thread.currentThread().getId();
        bean.getThreadAllocatedBytes(thread);
        long before = bean.getThreadAllocatedBytes(thread);
        askAll(x);
        long calls = bean.getThreadAllocatedBytes(thread) - before;
        CHECK.holds("calls make next to nothing, not " + calls + " bytes", calls < 4096);
        before = bean.getThreadAllocatedBytes(thread);
        new BurstBounds().ring();
        long constructor = bean.getThreadAllocatedBytes(thread) - before;
        CHECK.holds("an object is small, not " + constructor + " bytes", constructor < 40000);
    }

    private static BurstBounds busy() {
        BurstBounds x = new BurstBounds();
        x.bucket(1, 1);
        x.late(1, 99);
        for (int v = 0; v < 6; v++) {
            x.serve(v, 1);
        }
        for (int w = 0; w < 5; w++) {
            Desk.flow(x, 0, 0, 1, 2, 3);
        }
        Desk.see(x, new int[40]);
        return x;
    }

    private static void askAll(BurstBounds x) {
        for (int i = 0; i < 512; i += 16) {
            x.rule(i / 16 % 3);
            x.bound(4, 0);
            x.bound(4, 1);
            x.latest(2, 3);
            x.there(1, 1, 1, 1);
            x.heapAt(3);
            x.letIn(0, 1, 40);
            x.shape(1, 1);
            x.keeps(1, 1);
            x.sheet(0, 2, 60);
            x.copy(0, 0, 0, 1, 59);
            x.text(0, 2, 0, 60);
            x.steps(3, 2, 0, 40);
            x.see(3, 2, 0, 40);
            x.make(3, 0, 1);
            x.tell(1);
        }
    }
}
