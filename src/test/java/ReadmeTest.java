import java.io.ByteArrayOutputStream;
import java.io.IOException;
import java.io.PrintStream;
import java.lang.reflect.Field;
import java.lang.reflect.Method;
import java.lang.reflect.Modifier;
import java.net.URL;
import java.net.URLClassLoader;
import java.nio.charset.StandardCharsets;
import java.nio.file.Files;
import java.nio.file.Path;
import java.util.ArrayList;
import java.util.List;
import java.util.Set;
import java.util.TreeSet;
import java.util.regex.Matcher;
import java.util.regex.Pattern;
import java.util.stream.Stream;
import javax.tools.JavaCompiler;
import javax.tools.ToolProvider;

/** README.md tells no wrong answer: its program is run, and the face and the tests stand in it. */
final class ReadmeTest {
    private static final Pattern TOLD =
        Pattern.compile("(\\s*)(board\\.(\\w+)\\(.*\\)); *// (-?\\d+|BAD|STATE|FULL|SEA|NONE)\\b.*");

    private ReadmeTest() {
    }

    public static void main(String[] args) throws Exception {
        String readme = Files.readString(Path.of("README.md"), StandardCharsets.UTF_8);
        program(readme);
        face(readme);
        tests(readme);
        Check.end("ReadmeTest");
    }

    private static void stands(String readme, String text) {
        Check.due("README.md has " + text, readme.contains(text) ? 1 : 0, 1);
    }

    /** Each call of the program with an answer behind it prints its answer instead. */
    private static void program(String readme) throws Exception {
        String block = readme.replaceAll("(?s).*?```java\n(.*?)```.*", "$1");
        StringBuilder source = new StringBuilder();
        List<String> calls = new ArrayList<>();
        List<Long> dues = new ArrayList<>();
        Set<String> called = new TreeSet<>();
        for (String line : block.split("\n")) {
            Matcher told = TOLD.matcher(line);
            if (told.matches()) {
                source.append("System.out.println(").append(told.group(2)).append(");\n");
                calls.add(told.group(2));
                dues.add(number(told.group(4)));
                called.add(told.group(3));
            } else {
                Check.due("a call without an answer: " + line, line.matches("\\s*board\\.(?!set\\().*") ? 1 : 0, 0);
                source.append(line).append('\n');
            }
        }
        String[] answers = printed(source.toString());
        Check.due("README.md, answers", answers.length, calls.size());
        for (int k = 0; k < Math.min(answers.length, calls.size()); k++) {
            Check.due("README.md, " + calls.get(k), Long.parseLong(answers[k]), dues.get(k));
        }
        for (Method method : LandBoard.class.getDeclaredMethods()) {
            if (Modifier.isPublic(method.getModifiers()) && !method.getName().equals("set")) {
                Check.due("README.md calls " + method.getName(), called.contains(method.getName()) ? 1 : 0, 1);
            }
        }
    }

    private static long number(String told) throws ReflectiveOperationException {
        return told.matches("[A-Z]+") ? LandBoard.class.getField(told).getInt(null) : Long.parseLong(told);
    }

    private static String[] printed(String source) throws Exception {
        JavaCompiler compiler = ToolProvider.getSystemJavaCompiler();
        if (compiler == null) {
            Check.fail("there is no compiler");
            return new String[0];
        }
        Path made = Files.createTempDirectory("readme");
        PrintStream out = System.out;
        ByteArrayOutputStream bytes = new ByteArrayOutputStream();
        try {
            Path file = made.resolve("Lands.java");
            Files.writeString(file, source);
            int failed = compiler.run(null, null, null, "-d", made.toString(),
                "-classpath", System.getProperty("java.class.path"), file.toString());
            Check.due("README.md, its program compiles", failed, 0);
            if (failed == 0) {
                System.setOut(new PrintStream(bytes, true, StandardCharsets.UTF_8));
                run(made);
            }
        } finally {
            System.setOut(out);
            drop(made);
        }
        return bytes.toString(StandardCharsets.UTF_8).split("\\R");
    }

    private static void run(Path made) throws Exception {
        try (URLClassLoader loader = new URLClassLoader(new URL[] {made.toUri().toURL()})) {
            loader.loadClass("Lands").getMethod("main", String[].class).invoke(null, (Object) new String[0]);
        }
    }

    private static void drop(Path made) throws IOException {
        try (Stream<Path> files = Files.list(made)) {
            for (Path file : files.toList()) {
                Files.delete(file);
            }
        }
        Files.delete(made);
    }

    private static void face(String readme) throws IllegalAccessException {
        for (Method method : LandBoard.class.getDeclaredMethods()) {
            if (Modifier.isPublic(method.getModifiers())) {
                int numbers = method.getParameterCount();
                Matcher row = Pattern.compile("(?m)^\\| `" + method.getName() + "\\(([^)]*)\\)` \\|").matcher(readme);
                boolean found = row.find();
                Check.due("README.md tells of " + method.getName(), found ? 1 : 0, 1);
                String told = found ? row.group(1) : "";
                Check.due("numbers of " + method.getName(), told.isEmpty() ? 0 : told.split(",").length, numbers);
            }
        }
        for (Field field : LandBoard.class.getFields()) {
            stands(readme, "| `LandBoard." + field.getName() + "` | " + field.getInt(null) + " |");
        }
    }

    private static void tests(String readme) throws IOException {
        stands(readme, "bash .ci/run");
        stands(readme, "../shared/tests");
        try (Stream<Path> files = Files.list(Path.of("src/test/java"))) {
            for (Path file : files.toList()) {
                if (file.toString().endsWith("Test.java")) {
                    stands(readme, file.getFileName().toString());
                }
            }
        }
    }
}
