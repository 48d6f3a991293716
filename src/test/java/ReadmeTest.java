import java.io.ByteArrayOutputStream;
import java.io.IOException;
import java.io.PrintStream;
import java.lang.reflect.Method;
import java.net.URL;
import java.net.URLClassLoader;
import java.nio.file.Files;
import java.nio.file.Path;
import java.util.List;
import javax.tools.ToolProvider;

/** README.md: its example prints what it says, and every call has its row, in the order of the document. */
public final class ReadmeTest {
    private static final List<String> CALLS = List.of("new EventHall", "feed", "end", "load", "seed", "start", "run",
            "turn", "state", "number", "process", "place", "sum", "trace");

    private ReadmeTest() {
    }

    public static void main(String[] args) throws IOException, ReflectiveOperationException {
        String readme = Files.readString(Path.of("README.md"));
        rows(readme);
        example(block(readme, "java"), block(readme, "text"));
        Due.close();
    }

    private static void rows(String readme) {
        int before = 0;
        for (String call : CALLS) {
            int row = readme.indexOf("\n| `" + call + "(");
            Due.isTrue("a row for " + call + " in its order", row > before);
            before = row;
        }
    }

    /** What stands in the first block of a kind. */
    private static String block(String readme, String kind) {
        String begin = "```" + kind + "\n";
        int from = readme.indexOf(begin);
        int to = readme.indexOf("```", from + begin.length());
        Due.isTrue("a block of " + kind, from >= 0 && to >= 0);
        return from >= 0 && to >= 0 ? readme.substring(from + begin.length(), to) : "";
    }

    private static void example(String program, String want) throws IOException, ReflectiveOperationException {
        Path room = Files.createTempDirectory("readme");
        Path source = room.resolve("Example.java");
        Files.writeString(source, program);
        int fault = ToolProvider.getSystemJavaCompiler().run(null, null, null, "-proc:none",
                "-cp", System.getProperty("java.class.path"), "-d", room.toString(), source.toString());
        Due.is("compiling the example", fault, 0);
        if (fault == 0) {
            String got = outputOf(room);
            Due.isTrue("the example prints\n" + got, got.equals(want));
        }
        remove(room);
    }

    private static String outputOf(Path room) throws IOException, ReflectiveOperationException {
        PrintStream before = System.out;
        ByteArrayOutputStream kept = new ByteArrayOutputStream();
        try (URLClassLoader loader = new URLClassLoader(new URL[] {room.toUri().toURL()})) {
            Method main = loader.loadClass("Example").getMethod("main", String[].class);
            System.setOut(new PrintStream(kept, true));
            main.invoke(null, (Object) new String[0]);
        } finally {
            System.setOut(before);
        }
        return kept.toString().replace("\r\n", "\n");
    }

    private static void remove(Path room) throws IOException {
        try (var files = Files.list(room)) {
            for (Path file : files.toList()) {
                Files.delete(file);
            }
        }
        Files.delete(room);
    }
}
