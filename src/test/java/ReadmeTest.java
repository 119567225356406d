import java.io.IOException;
import java.lang.reflect.Method;
import java.lang.reflect.Modifier;
import java.net.URL;
import java.net.URLClassLoader;
import java.nio.file.Files;
import java.nio.file.Path;
import java.util.ArrayList;
import java.util.List;
import java.util.Map;
import java.util.Set;
import java.util.TreeSet;
import java.util.regex.Matcher;
import java.util.regex.Pattern;
import javax.tools.JavaCompiler;
import javax.tools.ToolProvider;

/** The Java that README.md shows is compiled as it stands there, and its calls answer as README.md says. */
public final class ReadmeTest {
    private static final Map<String, Integer> NAMED = Map.of("BAD", -1, "STATE", -2, "FULL", -3, "NONE", -4);
    private static final Pattern SHOWN = Pattern.compile("(x\\.(\\w+)\\(.*\\));\\s+// (-?\\d+|[A-Z]+): .*");

    private final Check check = new Check();
    private final List<String> calls = new ArrayList<>();
    private final List<Long> due = new ArrayList<>();
    private final Set<String> names = new TreeSet<>();

    public static void main(String[] args) throws Exception {
        ReadmeTest test = new ReadmeTest();
        String source = test.sourceOf(Files.readAllLines(Path.of("README.md")));
        test.compare(test.answersOf(source));
        test.everyCallIsShown();
        test.check.finish();
    }

    /** The lines of README.md's java blocks, one behind another, those with an answer keeping what was answered. */
    private String sourceOf(List<String> readme) {
        StringBuilder body = new StringBuilder();
        boolean java = false;
        for (String line : readme) {
            if (line.startsWith("```")) {
                java = line.equals("```java");
            } else if (java) {
                body.append(lineOf(line)).append('\n');
            }
        }
        return "public final class ReadmeCalls {\n    public static void make(long[] answers) {\n"
                + body + "    }\n}\n";
    }

    private String lineOf(String line) {
        Matcher shown = SHOWN.matcher(line);
        if (!shown.matches()) {
            check.holds("a call has its answer behind it: " + line, !line.startsWith("x."));
            return line;
        }
        String answer = shown.group(3);
        boolean known = NAMED.containsKey(answer) || answer.matches("-?\\d+");
        check.holds("an answer is a number or a name of the face: " + line, known);
        calls.add(shown.group(1));
        due.add(known ? NAMED.containsKey(answer) ? NAMED.get(answer) : Long.parseLong(answer) : 0L);
        names.add(shown.group(2));
        return "answers[" + (calls.size() - 1) + "] = " + shown.group(1) + ";";
    }

    private long[] answersOf(String source) throws Exception {
        long[] answers = new long[calls.size()];
        Path dir = Files.createTempDirectory("readme");
        try {
            compile(source, dir);
            try (URLClassLoader loader = new URLClassLoader(new URL[] {dir.toUri().toURL()})) {
                loader.loadClass("ReadmeCalls").getMethod("make", long[].class).invoke(null, (Object) answers);
            }
        } finally {
            empty(dir);
        }
        return answers;
    }

    private static void compile(String source, Path dir) throws IOException {
        Path file = dir.resolve("ReadmeCalls.java");
        Files.writeString(file, source);
        JavaCompiler javac = ToolProvider.getSystemJavaCompiler();
        int failed = javac.run(null, null, null, "-Xlint:all", "-cp", System.getProperty("java.class.path"),
                "-d", dir.toString(), file.toString());
        if (failed != 0) {
            throw new IllegalStateException("the Java of README.md does not compile");
        }
    }

    private static void empty(Path dir) throws IOException {
        Files.deleteIfExists(dir.resolve("ReadmeCalls.java"));
        Files.deleteIfExists(dir.resolve("ReadmeCalls.class"));
        Files.delete(dir);
    }

    private void compare(long[] answers) {
        for (int i = 0; i < answers.length; i++) {
            check.due("README.md, answer " + (i + 1) + ": " + calls.get(i), answers[i], due.get(i));
        }
    }

    private void everyCallIsShown() {
        for (Method method : RocketPrint.class.getDeclaredMethods()) {
            if (Modifier.isPublic(method.getModifiers())) {
                check.holds("README.md shows what " + method.getName() + " answers", names.contains(method.getName()));
            }
        }
    }
}
