import java.io.IOException;
import java.lang.reflect.Method;
import java.lang.reflect.Modifier;
import java.nio.file.Files;
import java.nio.file.Path;
import java.util.List;

/** README.md tells the whole face, names every test, and its example does what it says. */
public final class ReadmeTest {
    private static final Check CHECK = new Check("ReadmeTest");

    public static void main(String[] args) throws IOException {
        String readme = Files.readString(Path.of("README.md"));
        face(readme);
        tests(readme);
        sameExample(readme, Files.readString(Path.of("src/test/java/ReadmeTest.java")));
        example();
        CHECK.end();
    }

    private static List<String> javaBlock(String text) {
        int from = text.indexOf("```java\n") + 8;
        return text.substring(from, text.indexOf("```", from)).lines().map(String::strip).toList();
    }

    private static void face(String readme) {
        int methods = 0;
        for (Method method : LacedSound.class.getDeclaredMethods()) {
            if (Modifier.isPublic(method.getModifiers())) {
                String head = method.getReturnType().getSimpleName() + " " + method.getName() + "(";
                CHECK.due("README.md tells " + head + "..)", readme.contains("| `" + head), true);
                methods++;
            }
        }
        CHECK.due("the methods", methods, 20);
        CHECK.due("README.md tells the constructor", readme.contains("`LacedSound()`"), true);
        CHECK.due("README.md tells the constant", readme.contains("`LacedSound.NONE` (-1)"), true);
        CHECK.due("README.md tells how to run the tests", readme.contains("    bash .ci/run\n"), true);
    }

    private static void tests(String readme) throws IOException {
        try (var files = Files.newDirectoryStream(Path.of("src/test/java"), "*.java")) {
            for (Path file : files) {
                String name = file.getFileName().toString().replace(".java", "");
                CHECK.due("README.md names " + name, readme.contains("`" + name + "`"), true);
            }
        }
    }

    /** The example below is that of README.md, line by line; what is noted behind the lines aside. */
    private static void sameExample(String readme, String source) {
        List<String> lines = source.lines().map(String::strip).toList();
        for (String line : javaBlock(readme)) {
            String code = line.replaceAll(" *//.*", "");
            CHECK.due("the line of README.md: " + code, lines.contains(code), true);
        }
    }

    private static void example() {
        LacedSound x = new LacedSound();
        long[] packets = {0x0801L, 0x7222C9248C03L, 0x0218804005L, 0x318254L};
        int[] sizes = {2, 6, 5, 3};
        x.raw(0x55, 1);
        for (int k = 0; k < packets.length; k++) {
            x.add(packets[k], sizes[k]);
            x.send(0, 10 * k);
            x.flush(0, k == 3);
        }
        for (int event = x.next(); event != 0; event = x.next()) {
            if (event == 3) {
                x.take();
            }
        }
        int height = x.curve(0, 1);
        int fine = x.value(0, 1);
        int outside = x.curve(1, 0);
        CHECK.due("the curve of the example", height, 8);
        CHECK.due("the value of the example", fine, -2);
        CHECK.due("a channel that is not there", outside, LacedSound.NONE);
        CHECK.due("its latest event is the END, with four packets", x.amount(), 4);
        CHECK.due("its block", x.block(), 8);
    }
}
