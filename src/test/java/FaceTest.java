import java.lang.management.ManagementFactory;
import java.lang.reflect.Constructor;
import java.lang.reflect.Field;
import java.lang.reflect.Method;
import java.lang.reflect.Modifier;
import java.nio.file.Files;
import java.nio.file.Path;
import java.util.ArrayList;
import java.util.Arrays;
import java.util.List;
import java.util.Set;
import java.util.TreeSet;
import java.util.regex.Matcher;
import java.util.regex.Pattern;

/** The face of the class, what can be told of LANGUAGE.md from outside, and the room that calls take. */
public final class FaceTest {
    private static final String SOURCE = "src/main/java/TowerService.java";
    private static final List<String> METHODS = List.of(
        "write(int)", "wipe()", "fault()", "lay()", "person(int, int)", "fear(int, int)", "work(int, int)",
        "pass(int)", "promote(int)", "hoist(int)", "call(int)", "undo()",
        "behind(int, int, int)", "lowest(int)", "posting(int)", "timetable(int, int)", "swap(int)",
        "can(int, int, int)", "seen(int, int, int)", "forget()", "nerves(int, int)", "kinds(int)",
        "likely(int, int, int)", "decade(int, int, int)", "keep()", "back()", "count(int)");

    private static int wrong = 0;

    public static void main(String[] args) throws Exception {
        face();
        namesOfPrivateMethods();
        source();
        room();
        if (wrong != 0) {
            System.exit(1);
        }
        System.out.println("the face, the language and the room are as due");
    }

    private static void check(boolean holds, String what) {
        if (!holds) {
            wrong++;
            System.out.println("not so: " + what);
        }
    }

    private static void face() throws Exception {
        Class<TowerService> c = TowerService.class;
        check(Modifier.isPublic(c.getModifiers()) && Modifier.isFinal(c.getModifiers()), "public and final");
        Set<String> found = new TreeSet<>();
        for (Method m : c.getDeclaredMethods()) {
            if (!Modifier.isPrivate(m.getModifiers()) && !m.isSynthetic()) {
                String types = Arrays.toString(Arrays.stream(m.getParameterTypes()).map(Class::getName).toArray());
                found.add(m.getName() + "(" + types.substring(1, types.length() - 1) + ")");
                check(Modifier.isPublic(m.getModifiers()) && m.getReturnType() == int.class, m + " is public int");
            }
        }
        check(found.equals(new TreeSet<>(METHODS)), "the methods are " + found);
        Set<String> constants = new TreeSet<>();
        for (Field f : c.getDeclaredFields()) {
            if (!Modifier.isPrivate(f.getModifiers())) {
                constants.add(f.getName() + " = " + f.get(null));
            }
            check(!Modifier.isStatic(f.getModifiers()) || Modifier.isFinal(f.getModifiers()), f + " is final");
        }
        check(constants.equals(new TreeSet<>(List.of("BAD = -1", "NO = -2", "FULL = -3", "NONE = -4"))),
            "the constants are " + constants);
        Constructor<?>[] made = c.getDeclaredConstructors();
        check(made.length == 1 && made[0].getParameterCount() == 0 && Modifier.isPublic(made[0].getModifiers()),
            "one public constructor");
    }

    private static void namesOfPrivateMethods() {
        Set<String> names = new TreeSet<>();
        for (String method : METHODS) {
            names.add(method.substring(0, method.indexOf('(')));
        }
        List<Class<?>> classes = new ArrayList<>(List.of(TowerService.class.getDeclaredClasses()));
        check(classes.size() <= 11, "at most some twelve classes");
        for (Method m : TowerService.class.getDeclaredMethods()) {
            check(!Modifier.isPrivate(m.getModifiers()) || !names.contains(m.getName()),
                m + " bears the name of a public method");
            check(m.getParameterCount() <= 7, m + " takes at most seven");
        }
        for (Class<?> inside : classes) {
            check(Modifier.isStatic(inside.getModifiers()), inside + " is static");
            check(inside.getDeclaredFields().length <= 20, inside + " has at most some twenty fields");
            for (Method m : inside.getDeclaredMethods()) {
                check(!names.contains(m.getName()), m + " bears the name of a public method");
                check(m.getParameterCount() <= 7, m + " takes at most seven");
            }
        }
    }

    private static void source() throws Exception {
        String text = Files.readString(Path.of(SOURCE));
        String code = text.replaceAll("(?s)/\\*.*?\\*/", "").replaceAll("//[^\n]*", "").replaceAll("\"[^\"]*\"", "\"\"");
        String[] words = {"throw", "throws", "try", "catch", "synchronized", "assert", "import", "package", "static \\{",
            "->", "::", "toString", "hashCode", "\\.equals", "Exact", "new [A-Z]\\w*\\([^)]*\\) *\\{", "var"};
        for (String word : words) {
            String pattern = word.matches("\\w+") ? "\\b" + word + "\\b" : word;
            check(!Pattern.compile(pattern).matcher(code).find(), "no " + word);
        }
        check(text.chars().allMatch(sign -> sign < 128), "plain signs alone");
        int longest = 0;
        Matcher method = Pattern.compile("(?ms)^( {4}| {8})(?=\\w)[^;={}]*\\)[ ]*\\{\n(.*?)^\\1\\}").matcher(code);
        while (method.find()) {
            longest = Math.max(longest, method.group(2).split("\n").length);
        }
        check(longest > 5 && longest <= 60, "methods stay short: " + longest);
    }

    /** All rows are made by the constructor: a call makes nothing. */
    private static void room() {
        com.sun.management.ThreadMXBean threads =
            (com.sun.management.ThreadMXBean) ManagementFactory.getThreadMXBean();
        callAll(new TowerService());
        TowerService x = new TowerService();
        long before = threads.getCurrentThreadAllocatedBytes();
        callAll(x);
        long between = threads.getCurrentThreadAllocatedBytes();
        TowerService another = new TowerService();
        long after = threads.getCurrentThreadAllocatedBytes();
        check(between - before < 1024, "calls make nothing, but made bytes: " + (between - before));
        check(after - between < 16384, "an object takes little room, but takes bytes: " + (after - between));
        check(another.count(1) == 6, "another object");
    }

    private static void callAll(TowerService x) {
        String text = "h10;p3,3,21,21;p3,0,24,18;p3,7,48,24;p3,4,20,8;p2,1,48,18;p0,8,59,1;w4,1;w3,1;w1,3;w2,2;w5,2;";
        for (int i = 0; i < text.length(); i++) {
            x.write(text.charAt(i));
        }
        x.fault();
        x.lay();
        for (int i = 0; i < 12; i++) {
            x.promote(i % 6);
            x.hoist((i + 1) % 6);
            x.call((i + 2) % 6);
            x.pass(1);
            x.keep();
            x.posting(-1);
            x.timetable(4, -1);
            x.swap(0);
            x.can(9, 0, 0);
            x.seen(0, i % 10, 1);
            x.nerves(0, 0);
            x.kinds(0);
            x.likely(1, 5, 0);
            x.decade(i, 60, 0);
            x.behind(40, 0, 0);
            x.lowest(0);
            x.person(0, 4);
            x.count(6);
            x.undo();
        }
        x.back();
        x.forget();
        x.wipe();
    }
}
