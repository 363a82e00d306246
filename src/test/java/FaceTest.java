import java.io.IOException;
import java.lang.management.ManagementFactory;
import java.lang.reflect.Array;
import java.lang.reflect.Constructor;
import java.lang.reflect.Field;
import java.lang.reflect.Method;
import java.lang.reflect.Modifier;
import java.nio.file.Files;
import java.nio.file.Path;
import java.util.ArrayDeque;
import java.util.Collections;
import java.util.IdentityHashMap;
import java.util.List;
import java.util.Set;
import java.util.TreeSet;
import java.util.regex.Pattern;

/** The rules of LANGUAGE.md that a test can see: the face, the words, the room. */
public final class FaceTest {
    private static final Check CHECK = new Check("FaceTest");
    // A FORMAT, three BOOKs and the beginning of a SETUP.
    private static final long[] WORDS = {0x1301L, 1112031661315L, 310208687927299L, 83971L, 3233733435214555397L};
    private static final int[] SIZES = {2, 6, 7, 3, 8};
    private static final Set<String> FACE = new TreeSet<>(List.of(
        "int add(long, int)", "int send(int, int)", "int flush(int, boolean)", "int raw(long, int)",
        "boolean alter(int, int)", "boolean cut(int, int)", "int wire(int)", "int length()", "int next()",
        "int amount()", "int serial()", "int time()", "int octet(int)", "int pieces()", "int take()",
        "int entry(int, int)", "int block()", "int curve(int, int)", "int value(int, int)", "int samples()"));

    public static void main(String[] args) throws IOException, IllegalAccessException {
        String path = args.length > 0 ? args[0] : "src/main/java/LacedSound.java";
        members();
        classesInside();
        words(Files.readString(Path.of(path)));
        room();
        noObjectsInCalls();
        CHECK.end();
    }

    private static String signature(Method method) {
        StringBuilder text = new StringBuilder();
        for (Class<?> type : method.getParameterTypes()) {
            text.append(text.length() == 0 ? "" : ", ").append(type.getSimpleName());
        }
        return method.getReturnType().getSimpleName() + " " + method.getName() + "(" + text + ")";
    }

    private static void members() {
        Set<String> found = new TreeSet<>();
        for (Method method : LacedSound.class.getDeclaredMethods()) {
            if (Modifier.isPublic(method.getModifiers())) {
                found.add(signature(method));
            } else {
                CHECK.due(method + " is private", Modifier.isPrivate(method.getModifiers()), true);
            }
        }
        CHECK.due("the public methods are " + found, found.equals(FACE), true);
        for (Constructor<?> made : LacedSound.class.getDeclaredConstructors()) {
            CHECK.due(made + " is public and bare", Modifier.isPublic(made.getModifiers()) && made.getParameterCount() == 0, true);
        }
        for (Field field : LacedSound.class.getDeclaredFields()) {
            boolean none = field.getName().equals("NONE");
            CHECK.due(field + " is public", Modifier.isPublic(field.getModifiers()), none);
            CHECK.due(field + " is private", Modifier.isPrivate(field.getModifiers()), !none);
        }
        CHECK.due("the class is final", Modifier.isFinal(LacedSound.class.getModifiers()), true);
    }

    private static void classesInside() {
        Class<?>[] inside = LacedSound.class.getDeclaredClasses();
        CHECK.due("the file has twelve classes at most", inside.length < 12, true);
        for (Class<?> type : inside) {
            CHECK.due(type + " is static", Modifier.isStatic(type.getModifiers()), true);
            for (Method method : type.getDeclaredMethods()) {
                boolean taken = FACE.stream().anyMatch(f -> f.contains(" " + method.getName() + "("));
                boolean hidden = Modifier.isPrivate(method.getModifiers());
                CHECK.due(method + " is private and bears the name of a public one", hidden && taken, false);
                CHECK.due(method + " has seven parameters at most", method.getParameterCount() <= 7, true);
            }
            int fields = 0;
            for (Field field : type.getDeclaredFields()) {
                boolean isStatic = Modifier.isStatic(field.getModifiers());
                fields += isStatic ? 0 : 1;
                CHECK.due(field + " is final if it is static", !isStatic || Modifier.isFinal(field.getModifiers()), true);
            }
            CHECK.due(type + " has twenty fields at most", fields <= 20, true);
        }
    }

    private static void words(String source) {
        String code = source.replaceAll("(?s)/\\*.*?\\*/", "").replaceAll("//[^\n]*", "");
        String[] barred = {"throw", "throws", "try", "catch", "synchronized", "assert", "package", "volatile", "native",
            "System.out", "System.nanoTime", "System.currentTimeMillis", "Thread", "Random", "->", "::"};
        for (String word : barred) {
            boolean letters = Character.isLetter(word.charAt(0));
            String pattern = letters ? "\\b" + Pattern.quote(word) + "\\b" : Pattern.quote(word);
            CHECK.due("'" + word + "' stands in the program", Pattern.compile(pattern).matcher(code).find(), false);
        }
        CHECK.due("a function whose name ends in Exact", Pattern.compile("\\w+Exact\\(").matcher(code).find(), false);
        int length = 0;
        for (String line : code.split("\n")) {
            if (line.startsWith("import ")) {
                CHECK.due(line, line.matches("import java\\.util\\.(Arrays|ArrayList|List|Iterator);"), true);
            }
            boolean opens = line.matches(" +(private|public) .*\\) \\{");
            length = opens ? 1 : length + 1;
            if (line.matches(" {4}( {4})?\\}")) {
                CHECK.due("a method of " + length + " lines is short", length <= 60 || line.startsWith("    }"), true);
            }
        }
    }

    /** Objects and arrays, and fields and elements, that one object of the class holds. */
    private static void room() throws IllegalAccessException {
        Set<Object> seen = Collections.newSetFromMap(new IdentityHashMap<>());
        ArrayDeque<Object> open = new ArrayDeque<>();
        open.add(new LacedSound());
        int cells = 0;
        while (!open.isEmpty()) {
            Object here = open.remove();
            if (!seen.add(here)) {
                continue;
            }
            if (here.getClass().isArray()) {
                cells += Array.getLength(here);
                if (!here.getClass().getComponentType().isPrimitive()) {
                    open.addAll(List.of((Object[]) here));
                }
                continue;
            }
            for (Field field : here.getClass().getDeclaredFields()) {
                if (Modifier.isStatic(field.getModifiers())) {
                    continue;
                }
                cells++;
                field.setAccessible(true);
                if (!field.getType().isPrimitive()) {
                    open.add(field.get(here));
                }
            }
        }
        System.out.println("FaceTest: an object holds " + seen.size() + " objects and arrays, " + cells + " fields and elements");
        CHECK.due("the objects of a new object are few", seen.size() <= 200, true);
        CHECK.due("the cells of a new object are few", cells <= 10000, true);
    }

    /** After a first round, a round of all calls makes no object at all. */
    private static void noObjectsInCalls() {
        var threads = (com.sun.management.ThreadMXBean) ManagementFactory.getThreadMXBean();
        long made = 0;
        for (int round = 0; round < 3; round++) {
            LacedSound x = new LacedSound();
            long before = threads.getCurrentThreadAllocatedBytes();
            allCalls(x);
            made = threads.getCurrentThreadAllocatedBytes() - before;
        }
        System.out.println("FaceTest: some hundred calls made " + made + " bytes of objects");
        CHECK.due("the calls make no objects", made < 1000, true);
    }

    private static void allCalls(LacedSound x) {
        for (int k = 0; k < WORDS.length; k++) {
            x.add(WORDS[k], SIZES[k]);
            if (k == 4) {
                x.add(1101L, 2);
            }
            deliver(x);
        }
        for (int k = 0; k < 8; k++) {
            x.add(-1545334633494768888L + k, 8);
            x.add(3166327953680095525L, 8);
            deliver(x);
            x.raw(k, 1);
        }
        x.alter(x.length() - 1, 1);
        x.cut(x.length() - 1, 1);
        x.flush(1, true);
        x.next();
        x.next();
    }

    private static void deliver(LacedSound x) {
        x.send(0, 9);
        x.flush(0, false);
        for (int event = x.next(); event != 0; event = x.next()) {
            x.take();
        }
        x.curve(0, x.value(0, 0) + x.block() + x.samples());
    }
}
