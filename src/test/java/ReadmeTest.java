import java.io.ByteArrayOutputStream;
import java.io.IOException;
import java.io.PrintStream;
import java.lang.reflect.Method;
import java.net.URL;
import java.net.URLClassLoader;
import java.nio.charset.StandardCharsets;
import java.nio.file.DirectoryStream;
import java.nio.file.Files;
import java.nio.file.Path;
import java.util.regex.Matcher;
import java.util.regex.Pattern;
import javax.tools.ToolProvider;

/** README.md: its program prints what it says, and it names every call and every test. */
public final class ReadmeTest {
    private static final Harness T = new Harness("ReadmeTest");

    public static void main(String[] args) throws IOException, ReflectiveOperationException {
        String page = Files.readString(Path.of("README.md"), StandardCharsets.ISO_8859_1);
        Path room = Files.createTempDirectory("readme");
        try {
            T.due("what README.md's program prints", printed(block(page, "java"), room), block(page, "text"));
        } finally {
            clear(room);
        }
        names(page);
        T.finish();
    }

    /** The first block of a kind. */
    private static String block(String page, String kind) {
        Matcher found = Pattern.compile("(?s)```" + kind + "\n(.*?)```").matcher(page);
        return found.find() ? found.group(1) : "";
    }

    private static String printed(String program, Path room) throws IOException, ReflectiveOperationException {
        Path file = room.resolve("Example.java");
        Files.writeString(file, program);
        int refused = ToolProvider.getSystemJavaCompiler().run(null, null, null, "-proc:none", "-d", room.toString(),
            file.toString(), "src/main/java/QuarterBoards.java");
        T.due("README.md's program compiles", refused, 0);
        PrintStream before = System.out;
        ByteArrayOutputStream lines = new ByteArrayOutputStream();
        try (URLClassLoader loader = new URLClassLoader(new URL[] {room.toUri().toURL()},
            ClassLoader.getPlatformClassLoader())) {
            System.setOut(new PrintStream(lines, true));
            Method main = loader.loadClass("Example").getMethod("main", String[].class);
            main.invoke(null, (Object) new String[0]);
        } finally {
            System.setOut(before);
        }
        return lines.toString().replace("\r\n", "\n");
    }

    private static void clear(Path room) throws IOException {
        try (DirectoryStream<Path> files = Files.newDirectoryStream(room)) {
            for (Path file : files) {
                Files.delete(file);
            }
        }
        Files.delete(room);
    }

    private static void names(String page) throws IOException {
        for (Method method : QuarterBoards.class.getMethods()) {
            if (method.getDeclaringClass() == QuarterBoards.class) {
                T.due("the call " + method.getName(), page.contains("`" + method.getName() + "`"), true);
            }
        }
        try (DirectoryStream<Path> tests = Files.newDirectoryStream(Path.of("src/test/java"), "*Test.java")) {
            for (Path test : tests) {
                String name = test.getFileName().toString().replace(".java", "");
                T.due("the test " + name, Pattern.compile("\\| ([A-Za-z, ]*, )?" + name + "[, |]").matcher(page).find(), true);
            }
        }
    }
}
