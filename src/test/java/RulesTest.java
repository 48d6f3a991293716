import java.io.IOException;
import java.lang.reflect.Constructor;
import java.lang.reflect.Field;
import java.lang.reflect.Method;
import java.lang.reflect.Modifier;
import java.nio.file.Files;
import java.nio.file.Path;
import java.util.List;
import java.util.TreeSet;
import java.util.regex.Matcher;
import java.util.regex.Pattern;

/** The face of the document, and those rules of the language that a program can look at. */
public final class RulesTest {
    private static final String SOURCE = "src/main/java/EventHall.java";
    private static final int MOST_LINES = 60, MOST_CLASSES = 12, MOST_FIELDS = 20, MOST_PARAMETERS = 7;

    private RulesTest() {
    }

    public static void main(String[] args) throws IOException {
        face();
        members();
        String source = Files.readString(Path.of(SOURCE));
        words(withoutTextsAndRemarks(source));
        lengths(source.lines().toList());
        room();
        Due.close();
    }

    private static void face() {
        Due.is("BAD", EventHall.BAD, -1);
        Due.is("NONE", EventHall.NONE, -2);
        TreeSet<String> found = new TreeSet<>();
        for (Method method : EventHall.class.getDeclaredMethods()) {
            boolean isPrivate = Modifier.isPrivate(method.getModifiers());
            if (!isPrivate) {
                found.add(method.toString());
            }
        }
        TreeSet<String> want = new TreeSet<>(List.of(
                "public int EventHall.feed(int,int,int,int,int)", "public int EventHall.end(int)",
                "public int EventHall.load()", "public int EventHall.seed(int)",
                "public int EventHall.start(int,int,int,int,int)", "public int EventHall.run(int)",
                "public int EventHall.turn(int)", "public int EventHall.state(int)", "public int EventHall.number(int)",
                "public int EventHall.process(int,int)", "public int EventHall.place(int,int)",
                "public long EventHall.sum(int,int)", "public int EventHall.trace(int,int)"));
        Due.isTrue("methods " + found, found.equals(want));
        Constructor<?>[] constructors = EventHall.class.getDeclaredConstructors();
        Due.is("constructors", constructors.length, 1);
        Due.is("its parameters", constructors[0].getParameterCount(), 0);
        Due.isTrue("public final", EventHall.class.getModifiers() == (Modifier.PUBLIC | Modifier.FINAL));
        TreeSet<String> publicFields = new TreeSet<>();
        for (Field field : EventHall.class.getDeclaredFields()) {
            if (!Modifier.isPrivate(field.getModifiers())) {
                publicFields.add(field.toString());
            }
        }
        Due.isTrue("constants " + publicFields, publicFields.equals(new TreeSet<>(List.of(
                "public static final int EventHall.BAD", "public static final int EventHall.NONE"))));
    }

    private static void members() {
        TreeSet<String> publicNames = new TreeSet<>();
        for (Method method : EventHall.class.getMethods()) {
            publicNames.add(method.getName());
        }
        Class<?>[] inside = EventHall.class.getDeclaredClasses();
        Due.isTrue("classes", inside.length + 1 <= MOST_CLASSES);
        checkClass(EventHall.class);
        for (Class<?> one : inside) {
            Due.isTrue(one + " is static", Modifier.isStatic(one.getModifiers()));
            checkClass(one);
            for (Method method : one.getDeclaredMethods()) {
                Due.isTrue(method + " has a name of its own", !publicNames.contains(method.getName()));
            }
        }
    }

    private static void checkClass(Class<?> one) {
        int fields = 0;
        for (Field field : one.getDeclaredFields()) {
            if (Modifier.isStatic(field.getModifiers())) {
                Due.isTrue(field + " is final", Modifier.isFinal(field.getModifiers()));
            } else {
                fields++;
            }
        }
        Due.isTrue("fields of " + one, fields <= MOST_FIELDS);
        for (Method method : one.getDeclaredMethods()) {
            Due.isTrue("parameters of " + method, method.getParameterCount() <= MOST_PARAMETERS);
        }
    }

    private static String withoutTextsAndRemarks(String source) {
        return source.replaceAll("(?s)/\\*.*?\\*/", " ").replaceAll("//[^\n]*", " ")
                .replaceAll("\"[^\"\n]*\"", "\"\"").replaceAll("'.'", "' '");
    }

    private static void words(String code) {
        String[] banned = {"import", "package", "throw", "throws", "try", "catch", "finally", "synchronized", "assert",
            "volatile", "System", "Thread", "Runtime", "Object", "protected", "yield", "var"};
        for (String word : banned) {
            Due.isTrue("no " + word, !Pattern.compile("\\b" + word + "\\b").matcher(code).find());
        }
        Due.isTrue("no lambda", !code.contains("->"));
        Due.isTrue("no method reference", !code.contains("::"));
        Due.isTrue("no Exact", !code.contains("Exact("));
        Due.isTrue("no static block", !Pattern.compile("static\\s*\\{").matcher(code).find());
        Due.isTrue("no annotation", !code.contains("@"));
        Matcher library = Pattern.compile("\\b([A-Z]\\w*[a-z]\\w*)\\.(\\w+)\\(").matcher(code);
        while (library.find()) {
            Due.isTrue(library.group(), List.of("Math.max", "Math.min").contains(library.group(1) + "." + library.group(2)));
        }
    }

    /** From a line that opens a method to the one that closes it, which stands as far in. */
    private static void lengths(List<String> lines) {
        Pattern opening = Pattern.compile("^( +)[\\w\\[\\] ]+\\(.*\\) \\{$");
        for (int i = 0; i < lines.size(); i++) {
            Matcher matcher = opening.matcher(lines.get(i));
            String first = lines.get(i).trim().split("[ (]")[0];
            if (matcher.find() && !List.of("if", "for", "while", "switch", "}").contains(first)) {
                int end = i;
                while (!lines.get(end).equals(matcher.group(1) + "}")) {
                    end++;
                }
                Due.isTrue("lines of" + lines.get(i), end - i < MOST_LINES);
            }
        }
    }

    /** Loads and runs make no more than the processes, once. */
    private static void room() {
        com.sun.management.ThreadMXBean threads =
                (com.sun.management.ThreadMXBean) java.lang.management.ManagementFactory.getThreadMXBean();
        EventHall hall = new EventHall();
        String text = "resource r 1; store s 0 5; process p(n) { while n { n = n - 1; start p(n) draw(9); seize r;"
                + " put s 1; get s 1; await now > 0; say n; hold 1; free r; } }" + " ".repeat(3800);
        long before = 0;
        for (int round = 0; round < 3; round++) {
            if (round == 1) {
                before = threads.getCurrentThreadAllocatedBytes();
            }
            for (int i = 0; i + 20 <= text.length(); i += 20) {
                hall.feed(word(text, i), word(text, i + 4), word(text, i + 8), word(text, i + 12), word(text, i + 16));
            }
            hall.load();
            hall.start(0, 8, 0, 0, 0);
            for (int i = 0; i < 10; i++) {
                hall.run(20_000);
                hall.state(5);
                hall.process(3, 1);
                hall.place(0, 10);
            }
        }
        Due.isTrue("many processes", hall.state(3) > 200);
        Due.isTrue("no new objects", threads.getCurrentThreadAllocatedBytes() - before < 10_000);
    }

    private static int word(String text, int i) {
        return text.charAt(i) << 24 | text.charAt(i + 1) << 16 | text.charAt(i + 2) << 8 | text.charAt(i + 3);
    }
}
