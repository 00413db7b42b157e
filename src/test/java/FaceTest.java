import java.lang.management.ManagementFactory;
import java.lang.reflect.Field;
import java.lang.reflect.Method;
import java.lang.reflect.Modifier;
import java.nio.file.Files;
import java.nio.file.Path;
import java.util.ArrayList;
import java.util.List;
import java.util.TreeSet;

/** The public face, the rules of LANGUAGE.md that a program can look at, and what calls make. */
public final class FaceTest {
    private static final String[] FACE = {
        "int field(int, int)", "int ink(int, int, boolean)", "int box(int, int, int, boolean)",
        "int at(int, int)", "long number(int)", "int stamp(int, int)", "int rule(int, int)",
        "int mix(int, int, int, int)", "int act(int, int)", "int would(int, int)",
        "int add(int, int)", "int clear(int)", "int run(int, int)", "int shortest(int, int)",
        "int step(int, int, int)", "int differ(int, int)", "int count(int, int)",
        "int piece(int, int)", "int keep(int, int)", "int fill(int)", "int pair(int, int)",
        "int forget()", "int hits(int, int)", "int thin(int)", "int deep(int, int, int)",
        "int explains(int, int)", "int least(int, int)", "int boxes(int, boolean)",
        "int greatest(int, int)", "int covered(int)", "int alone(int, int)"
    };
    private static final String[] FORBIDDEN = {
        "\\bthrow\\b", "\\btry\\b", "\\bcatch\\b", "\\bsynchronized\\b", "\\bassert\\b", "\\bimport\\b",
        "\\bpackage\\b", "->", "::", "Exact\\b", "\\bpublic\\s+String\\s+toString\\b", "\\bprotected\\b",
        "[^\\x00-\\x7f]"
    };

    private static int wrong = 0;

    private static void check(boolean good, String what) {
        if (!good) {
            wrong++;
            System.out.println("not so: " + what);
        }
    }

    public static void main(String[] args) throws Exception {
        members();
        constants();
        classesInside();
        words();
        room();
        System.out.println(wrong == 0 ? "the face is as the document tells" : wrong + " faults");
        if (wrong != 0) {
            System.exit(1);
        }
    }

    private static String face(Method m) {
        List<String> types = new ArrayList<>();
        for (Class<?> type : m.getParameterTypes()) {
            types.add(type.getSimpleName());
        }
        return m.getReturnType().getSimpleName() + " " + m.getName() + "(" + String.join(", ", types) + ")";
    }

    private static TreeSet<String> faceNames() {
        TreeSet<String> names = new TreeSet<>();
        for (String f : FACE) {
            names.add(f.substring(f.indexOf(' ') + 1, f.indexOf('(')));
        }
        return names;
    }

    private static void members() {
        Class<?> c = WornShapes.class;
        check(Modifier.isPublic(c.getModifiers()) && Modifier.isFinal(c.getModifiers()), "public and final");
        check(c.getDeclaredConstructors().length == 1 && c.getConstructors().length == 1
                && c.getConstructors()[0].getParameterCount() == 0, "one constructor");
        TreeSet<String> open = new TreeSet<>();
        for (Method m : c.getDeclaredMethods()) {
            if (!Modifier.isPrivate(m.getModifiers())) {
                check(Modifier.isPublic(m.getModifiers()) && !Modifier.isStatic(m.getModifiers()), face(m) + " is public");
                open.add(face(m));
            } else {
                check(!faceNames().contains(m.getName()), m.getName() + " has a name of its own");
            }
        }
        check(open.equals(new TreeSet<>(List.of(FACE))), "the methods of the face: " + open);
    }

    private static void constants() throws Exception {
        String[] names = {"UNKNOWN", "OUTSIDE", "STATE", "FULL", "NONE"};
        int[] values = {-1, -2, -3, -4, -9};
        for (int i = 0; i < names.length; i++) {
            Field f = WornShapes.class.getField(names[i]);
            check(f.getType() == int.class && f.getInt(null) == values[i], names[i] + " is " + values[i]);
        }
        int open = 0;
        for (Field f : WornShapes.class.getDeclaredFields()) {
            open += Modifier.isPrivate(f.getModifiers()) ? 0 : 1;
        }
        check(open == names.length, "no other field is open");
    }

    private static void classesInside() {
        Class<?>[] inside = WornShapes.class.getDeclaredClasses();
        check(inside.length < 12, "at most some twelve classes");
        List<Class<?>> all = new ArrayList<>(List.of(inside));
        all.add(WornShapes.class);
        for (Class<?> c : all) {
            check(c == WornShapes.class || Modifier.isStatic(c.getModifiers()) && Modifier.isPrivate(c.getModifiers()),
                    c + " is private and static");
            int fields = 0;
            for (Field f : c.getDeclaredFields()) {
                boolean shared = Modifier.isStatic(f.getModifiers());
                check(!shared || Modifier.isFinal(f.getModifiers()), f + " is final");
                fields += shared ? 0 : 1;
            }
            check(fields <= 20, c + " has at most some twenty fields");
            for (Method m : c.getDeclaredMethods()) {
                check(m.getParameterCount() <= 7, m + " takes at most seven");
            }
        }
    }

    private static void words() throws Exception {
        String source = Files.readString(Path.of("src/main/java/WornShapes.java"));
        String code = source.replaceAll("(?s)/\\*.*?\\*/", " ").replaceAll("//[^\n]*", " ");
        for (String word : FORBIDDEN) {
            check(!java.util.regex.Pattern.compile(word).matcher(code).find(), "no " + word);
        }
    }

    /** Calls must make nothing: a run of 512 lives in one room that is never swept. */
    private static void room() {
        com.sun.management.ThreadMXBean bean = (com.sun.management.ThreadMXBean) ManagementFactory.getThreadMXBean();
        long warm = bean.getCurrentThreadAllocatedBytes();
        WornShapes x = new WornShapes();
        everyCall(x);
        long before = bean.getCurrentThreadAllocatedBytes();
        for (int i = 0; i < 16; i++) {
            everyCall(x);
        }
        long made = bean.getCurrentThreadAllocatedBytes() - before;
        check(warm >= 0 && made < 4096, "512 calls make nothing, but they made " + made + " bytes");
    }

    private static void everyCall(WornShapes x) {
        x.field(7, 7);
        x.stamp(1, 511);
        x.box(0, 0, 24, true);
        x.mix(3, 0, 0, 1);
        x.ink(1, 48, true);
        x.at(0, 0);
        x.number(0);
        x.rule(0, 0);
        x.act(0, 21);
        x.would(0, 31);
        x.add(0, 11);
        x.run(0, 1);
        x.shortest(0, 1);
        x.step(0, 1, 0);
        x.count(0, 0);
        x.count(0, 1);
        x.piece(0, 0);
        x.keep(0, 0);
        x.fill(0);
        x.pair(0, 1);
        x.hits(0, 0);
        x.thin(1);
        x.forget();
        x.deep(0, 0, 1);
        x.explains(0, 1);
        x.least(0, 1);
        x.boxes(0, true);
        x.greatest(0, 0);
        x.covered(0);
        x.alone(0, 0);
        x.field(4, 3);
        x.differ(0, 1);
        x.clear(0);
    }
}
