import java.io.ByteArrayOutputStream;
import java.io.IOException;
import java.io.PrintStream;
import java.io.UncheckedIOException;
import java.lang.reflect.Method;
import java.lang.reflect.Modifier;
import java.net.URL;
import java.net.URLClassLoader;
import java.nio.charset.StandardCharsets;
import java.nio.file.Files;
import java.nio.file.Path;
import java.nio.file.Paths;
import java.util.ArrayList;
import java.util.Comparator;
import java.util.List;
import java.util.stream.Collectors;
import java.util.stream.Stream;
import javax.tools.JavaCompiler;
import javax.tools.ToolProvider;

/** README.md: its example prints what it says, and every call and every test stands in it. */
public final class ReadmeTest {
    private static final Check CHECK = new Check();

    public static void main(String[] args) throws Exception {
        String readme = text(Paths.get("README.md"));
        example(readme);
        everyCall(readme);
        everyTest(readme);
        CHECK.end("ReadmeTest");
    }

    private static String text(Path path) throws IOException {
        return new String(Files.readAllBytes(path), StandardCharsets.UTF_8);
    }

    /** What stands between two fences, the first one being of this sort. */
    private static String block(String readme, String sort) {
        int from = readme.indexOf("```" + sort + "\n");
        int to = readme.indexOf("\n```\n", from);
        CHECK.due("a block of " + sort, from >= 0 && to > from, true);
        return from >= 0 && to > from ? readme.substring(from + sort.length() + 4, to + 1) : "";
    }

    private static void example(String readme) throws Exception {
        Path room = Files.createTempDirectory("readme");
        try {
            Path source = room.resolve("Example.java");
            Files.write(source, block(readme, "java").getBytes(StandardCharsets.UTF_8));
            JavaCompiler compiler = ToolProvider.getSystemJavaCompiler();
            int fault = compiler.run(null, null, null, "-d", room.toString(), "-cp",
                    System.getProperty("java.class.path"), source.toString());
            CHECK.due("compiling the example", fault, 0);
            lines(fault == 0 ? printed(room) : "", block(readme, "text"));
        } finally {
            remove(room);
        }
    }

    private static void lines(String got, String want) {
        String[] printed = got.split("\n");
        String[] said = want.split("\n");
        CHECK.due("lines of the example", printed.length, said.length);
        for (int i = 0; i < Math.min(printed.length, said.length); i++) {
            CHECK.due("the example's line " + printed[i] + " is " + said[i], printed[i].equals(said[i]), true);
        }
    }

    private static String printed(Path room) throws Exception {
        PrintStream before = System.out;
        ByteArrayOutputStream bytes = new ByteArrayOutputStream();
        try (URLClassLoader loader = new URLClassLoader(new URL[] {room.toUri().toURL()})) {
            Method main = loader.loadClass("Example").getMethod("main", String[].class);
            System.setOut(new PrintStream(bytes, true, "UTF-8"));
            main.invoke(null, (Object) new String[0]);
        } finally {
            System.setOut(before);
        }
        return bytes.toString("UTF-8").replace("\r\n", "\n");
    }

    private static void remove(Path room) throws IOException {
        try (Stream<Path> all = Files.walk(room)) {
            all.sorted(Comparator.reverseOrder()).forEach(ReadmeTest::removeOne);
        }
    }

    private static void removeOne(Path path) {
        try {
            Files.delete(path);
        } catch (IOException e) {
            throw new UncheckedIOException(e);
        }
    }

    private static void everyCall(String readme) {
        for (Method m : WishBridges.class.getDeclaredMethods()) {
            if (Modifier.isPublic(m.getModifiers())) {
                CHECK.due("README.md tells of " + m.getName(), readme.contains("`" + m.getName() + "`"), true);
            }
        }
    }

    private static void everyTest(String readme) throws IOException {
        List<String> names = new ArrayList<>();
        try (Stream<Path> files = Files.list(Paths.get("src/test/java"))) {
            names.addAll(files.map(f -> f.getFileName().toString()).filter(f -> f.endsWith("Test.java"))
                    .collect(Collectors.toList()));
        }
        CHECK.due("tests found: " + names.size(), names.size() > 5, true);
        for (String name : names) {
            String test = name.substring(0, name.length() - ".java".length());
            CHECK.due("README.md tells of " + test, readme.contains("| " + test + " |"), true);
        }
    }
}
