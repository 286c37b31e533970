import java.io.IOException;
import java.lang.reflect.Field;
import java.lang.reflect.Method;
import java.lang.reflect.Modifier;
import java.net.URL;
import java.net.URLClassLoader;
import java.nio.charset.StandardCharsets;
import java.nio.file.Files;
import java.nio.file.Path;
import java.util.ArrayList;
import java.util.List;
import java.util.regex.Matcher;
import java.util.regex.Pattern;
import java.util.spi.ToolProvider;

/** README.md: its example answers as the comments there say, and it leaves no call and no constant out. */
public final class ReadmeTest {
    private static final Pattern EXAMPLE = Pattern.compile("(?s)```java\n(.*?)```");
    private static final Pattern ANSWERED = Pattern.compile("(x\\.\\w+\\([^;]*\\));\\s+// (-?\\d+)(?: |:|$).*");
    private static final Due due = new Due();

    public static void main(String[] args) throws IOException, ReflectiveOperationException {
        String readme = Files.readString(Path.of("README.md"), StandardCharsets.UTF_8);
        Matcher example = EXAMPLE.matcher(readme);
        due.is("an example is there", example.find() ? 1 : 0, 1);
        runExample(example.group(1));
        namesAllCalls(readme);
        namesAllConstants(readme);
        due.end("ReadmeTest");
    }

    /** The example as a class: what a comment tells ahead is held against what its call answers. */
    private static void runExample(String example) throws IOException, ReflectiveOperationException {
        List<String> calls = new ArrayList<>();
        List<Long> wanted = new ArrayList<>();
        StringBuilder code = new StringBuilder("public class Example { public static void run(long[] answers) {\n");
        for (String line : example.split("\n")) {
            Matcher answered = ANSWERED.matcher(line.trim());
            if (answered.matches()) {
                code.append("answers[").append(calls.size()).append("] = ").append(answered.group(1)).append(";\n");
                calls.add(answered.group(1));
                wanted.add(Long.valueOf(answered.group(2)));
            } else {
                code.append(line).append('\n');
            }
        }
        due.is("comments that tell an answer", calls.size() > 10 ? 1 : 0, 1);
        long[] answers = new long[calls.size()];
        compiled(code.append("} }\n").toString()).getMethod("run", long[].class).invoke(null, (Object) answers);
        for (int i = 0; i < answers.length; i++) {
            due.is("README.md, line " + i + " of the answers: " + calls.get(i), answers[i], wanted.get(i));
        }
    }

    private static Class<?> compiled(String code) throws IOException, ReflectiveOperationException {
        Path dir = Files.createTempDirectory("readme");
        Path source = dir.resolve("Example.java");
        try {
            Files.writeString(source, code);
            ToolProvider javac = ToolProvider.findFirst("javac").orElseThrow();
            String classes = System.getProperty("java.class.path");
            int exit = javac.run(System.out, System.out, "-cp", classes, "-d", dir.toString(), source.toString());
            due.is("javac of README.md's example", exit, 0);
            try (URLClassLoader loader = new URLClassLoader(new URL[] {dir.toUri().toURL()})) {
                return loader.loadClass("Example");
            }
        } finally {
            Files.deleteIfExists(dir.resolve("Example.class"));
            Files.deleteIfExists(source);
            Files.deleteIfExists(dir);
        }
    }

    private static void namesAllCalls(String readme) {
        for (Method m : NobodyJoins.class.getDeclaredMethods()) {
            if (Modifier.isPublic(m.getModifiers())) {
                String name = "`" + m.getName() + "(";
                due.is("README.md has " + name, readme.contains(name) ? 1 : 0, 1);
            }
        }
    }

    private static void namesAllConstants(String readme) throws ReflectiveOperationException {
        for (Field f : NobodyJoins.class.getFields()) {
            String row = "| `" + f.getName() + "` " + f.getInt(null) + " |";
            due.is("README.md has " + row, readme.contains(row) ? 1 : 0, 1);
        }
    }
}
