import java.io.IOException;
import java.lang.reflect.Constructor;
import java.lang.reflect.Field;
import java.lang.reflect.Method;
import java.lang.reflect.Modifier;
import java.nio.file.Files;
import java.nio.file.Path;
import java.util.Set;
import java.util.TreeSet;
import java.util.regex.Matcher;
import java.util.regex.Pattern;

/** The public face of the document, and what of ../shared/LANGUAGE.md can be seen from outside. */
public final class FaceTest {
    private static final String[] FACE = {
        "again()", "arrives()", "back(int)", "bill(int,int)", "count(int)", "diary(int,int,int)", "fault()", "hours(int)",
        "join(int,int)", "keep()", "late()", "lay()", "member(int,int)", "mile(int,int)", "noDiary()", "order(int)",
        "parish(int,int)", "parties(int,int)", "read(int)", "ten(int,int)", "voices(int,int,int)", "who(int,int)",
        "wipe()", "would(int)", "write(int,long)", "wrong()", "year(int)"};
    /** Rules 2, 4, 6, 9, 12 and 13: none of these stands in the class. */
    private static final String[] UNTOLD = {
        "import ", "package ", "->", "::", "catch", "finally", "throw", "try ", "synchronized", "assert", "while (true)",
        "System\\.", "Thread", "Random", "\\.equals", "hashCode", "toString", "Exact", "instanceof", "static \\{",
        "MAX_VALUE", "MIN_VALUE"};

    private static int wrong = 0;

    public static void main(String[] args) throws IOException {
        methods();
        fieldsAndConstructor();
        nestedClasses();
        source();
        room();
        System.out.println("FaceTest: " + wrong + " wrong");
        if (wrong != 0) {
            System.exit(1);
        }
    }

    private static void hold(boolean so, String what) {
        if (!so) {
            wrong++;
            System.out.println(what);
        }
    }

    private static void methods() {
        Set<String> found = new TreeSet<>();
        Set<String> names = new TreeSet<>();
        for (Method m : WalkingLaw.class.getDeclaredMethods()) {
            if (Modifier.isPublic(m.getModifiers())) {
                StringBuilder name = new StringBuilder(m.getName()).append('(');
                for (Class<?> type : m.getParameterTypes()) {
                    name.append(name.charAt(name.length() - 1) == '(' ? "" : ",").append(type.getName());
                }
                found.add(name.append(')').toString());
                names.add(m.getName());
                hold(m.getReturnType() == int.class, m + " must answer an int");
                hold(!Modifier.isStatic(m.getModifiers()), m + " must not be static");
            }
        }
        hold(found.equals(new TreeSet<>(Set.of(FACE))), "the face is " + found);
        for (Class<?> c : withNested()) {
            for (Method m : c.getDeclaredMethods()) {
                boolean face = c == WalkingLaw.class && Modifier.isPublic(m.getModifiers());
                boolean closed = c != WalkingLaw.class || Modifier.isPrivate(m.getModifiers()) || m.isSynthetic();
                hold(face || closed, m + " is beside the face");
                hold(face || !names.contains(m.getName()), m + " bears the name of a public one");
                hold(m.getParameterCount() <= 7, m + " takes more than seven parameters");
            }
        }
    }

    private static Set<Class<?>> withNested() {
        Set<Class<?>> all = new java.util.LinkedHashSet<>();
        all.add(WalkingLaw.class);
        for (Class<?> c : WalkingLaw.class.getDeclaredClasses()) {
            all.add(c);
        }
        return all;
    }

    private static void fieldsAndConstructor() {
        hold(Modifier.isPublic(WalkingLaw.class.getModifiers()) && Modifier.isFinal(WalkingLaw.class.getModifiers()),
            "the class must be public and final");
        Constructor<?>[] made = WalkingLaw.class.getDeclaredConstructors();
        hold(made.length == 1 && Modifier.isPublic(made[0].getModifiers()) && made[0].getParameterCount() == 0,
            "one public constructor without parameters");
        Set<String> constants = new TreeSet<>();
        for (Class<?> c : withNested()) {
            int own = 0;
            for (Field f : c.getDeclaredFields()) {
                boolean isStatic = Modifier.isStatic(f.getModifiers());
                own += isStatic ? 0 : 1;
                hold(!isStatic || Modifier.isFinal(f.getModifiers()), f + " is static and not final");
                hold(Modifier.isPrivate(f.getModifiers()) || isStatic && c == WalkingLaw.class, f + " is not private");
                if (!Modifier.isPrivate(f.getModifiers())) {
                    constants.add(f.getName());
                }
            }
            hold(own <= 20, c + " has " + own + " fields");
        }
        hold(constants.equals(Set.of("BAD", "NO", "FULL", "NONE")), "the public constants are " + constants);
    }

    private static void nestedClasses() {
        hold(withNested().size() <= 12, "at most some twelve classes");
        for (Class<?> c : WalkingLaw.class.getDeclaredClasses()) {
            hold(Modifier.isStatic(c.getModifiers()) && !Modifier.isPublic(c.getModifiers())
                && !Modifier.isProtected(c.getModifiers()), c + " must be static and not public");
        }
    }

    private static void source() throws IOException {
        String text = Files.readString(Path.of("src/main/java/WalkingLaw.java"));
        for (int k = 0; k < text.length(); k++) {
            hold(text.charAt(k) < 127, "a sign above 126 at " + k);
        }
        String bare = text.replaceAll("/\\*[\\s\\S]*?\\*/", "").replaceAll("//.*", "");
        for (String pattern : UNTOLD) {
            Matcher m = Pattern.compile(pattern).matcher(bare);
            hold(!m.find(), "'" + pattern + "' stands in the class");
        }
        int lines = 0;
        String head = "";
        for (String line : bare.split("\n")) {
            if (line.matches("^(    ){1,2}\\S.*\\) \\{$")) {
                head = line;
                lines = 0;
            }
            lines++;
            hold(lines <= 60 || !line.matches("^(    ){1,2}\\}$"), "more than sixty lines: " + head);
        }
    }

    /** What is made once is used again: but for the constructor's, no call makes an object. */
    private static void room() {
        com.sun.management.ThreadMXBean room =
            (com.sun.management.ThreadMXBean) java.lang.management.ManagementFactory.getThreadMXBean();
        long sum = 0;
        WalkingLaw x = new WalkingLaw();
        sum += everyCall(x);
        long before = room.getThreadAllocatedBytes(Thread.currentThread().getId());
        long nothing = room.getThreadAllocatedBytes(Thread.currentThread().getId()) - before;
        before = room.getThreadAllocatedBytes(Thread.currentThread().getId());
        for (int k = 0; k < 19; k++) {
            sum += everyCall(x);
        }
        long made = room.getThreadAllocatedBytes(Thread.currentThread().getId()) - before - nothing;
        hold(made < 4096, "the calls made " + made + " bytes, and answered " + sum);
    }

    private static long everyCall(WalkingLaw x) {
        long sum = x.wipe();
        sum += x.write(7, 0x70392c302c393bL) + x.write(8, 0x6d302c332c31353bL) + x.fault() + x.lay();
        sum += x.parish(0, 3) + x.member(0, 2) + x.hours(9) + x.voices(0, 0, 0) + x.read(0) + x.bill(0, 2);
        sum += x.mile(400, 0) + x.who(400, 0) + x.arrives() + x.would(0) + x.order(-1) + x.back(0);
        sum += x.parties(0, -1) + x.join(0, 0) + x.diary(0, 0, 0) + x.wrong() + x.late() + x.noDiary();
        return sum + x.year(0) + x.ten(0, 0) + x.keep() + x.again() + x.count(0);
    }
}
