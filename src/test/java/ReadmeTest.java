import java.io.IOException;
import java.lang.reflect.Field;
import java.lang.reflect.Method;
import java.lang.reflect.Modifier;
import java.net.URL;
import java.net.URLClassLoader;
import java.nio.file.Files;
import java.nio.file.Path;
import java.util.ArrayList;
import java.util.List;
import java.util.TreeMap;
import java.util.TreeSet;
import java.util.regex.Matcher;
import java.util.regex.Pattern;
import java.util.stream.Stream;
import javax.tools.ToolProvider;

/** What README.md tells of the class is so: its examples are compiled and run, its tables held against the class. */
public final class ReadmeTest {
    private static final Path README = Path.of("README.md");
    private static final Path TESTS = Path.of("src/test/java");
    private static final Pattern BLOCK = Pattern.compile("(?s)```java\n(.*?)```");
    private static final Pattern ANSWERED = Pattern.compile("\\s*(island\\..*);\\s*// (-?\\d+)(?!\\d).*");
    private static final Pattern CALL_ROW = Pattern.compile("(?m)^\\| `(\\w+)\\(([^)]*)\\)` \\|");
    private static final Pattern CONSTANT_ROW = Pattern.compile("(?m)^\\| `([A-Z]+)` \\| (-\\d+) \\|");

    public static void main(String[] args) throws IOException, ReflectiveOperationException {
        String page = Files.readString(README);
        examples(page);
        calls(page);
        constants(page);
        tests(page);
        Due.end("ReadmeTest");
    }

    // ---- the examples: one program, of which each call whose answer is told is asked

    private static void examples(String page) throws IOException, ReflectiveOperationException {
        List<String> asked = new ArrayList<>();
        List<Long> due = new ArrayList<>();
        StringBuilder body = new StringBuilder();
        Matcher blocks = BLOCK.matcher(page);
        while (blocks.find()) {
            for (String line : blocks.group(1).split("\n")) {
                Matcher answered = ANSWERED.matcher(line);
                boolean isTold = answered.matches();
                // A call without an answer beside it would be left out unseen; the one in the loop has none.
                Due.holds("an answer is told: " + line, isTold || !line.startsWith("island."));
                if (isTold) {
                    asked.add(answered.group(1));
                    due.add(Long.parseLong(answered.group(2)));
                }
                body.append(isTold ? "answers.add((long) " + answered.group(1) + ");" : line).append('\n');
            }
        }
        Due.holds("the page has examples", asked.size() > 20);
        List<?> answers = run(body.toString());
        Due.is("as many answers as are told", answers.size(), due.size());
        for (int i = 0; i < Math.min(answers.size(), due.size()); i++) {
            Due.is("README: " + asked.get(i), (Long) answers.get(i), due.get(i));
        }
    }

    private static List<?> run(String body) throws IOException, ReflectiveOperationException {
        Path folder = Files.createTempDirectory("readme");
        Path source = folder.resolve("ReadmeExample.java");
        try {
            Files.writeString(source, "public final class ReadmeExample {\n"
                + "public static java.util.List<Long> answers() {\n"
                + "java.util.List<Long> answers = new java.util.ArrayList<>();\n"
                + body + "return answers;\n}\n}\n");
            int failed = ToolProvider.getSystemJavaCompiler().run(null, null, null, "-proc:none",
                "-cp", System.getProperty("java.class.path"), "-d", folder.toString(), source.toString());
            Due.is("compiling the examples", failed, 0);
            return failed == 0 ? answersOf(folder) : List.of();
        } finally {
            Files.deleteIfExists(folder.resolve("ReadmeExample.class"));
            Files.deleteIfExists(source);
            Files.delete(folder);
        }
    }

    private static List<?> answersOf(Path folder) throws IOException, ReflectiveOperationException {
        URL[] places = {folder.toUri().toURL()};
        try (URLClassLoader loader = new URLClassLoader(places, ReadmeTest.class.getClassLoader())) {
            return (List<?>) loader.loadClass("ReadmeExample").getMethod("answers").invoke(null);
        }
    }

    // ---- the tables

    private static void calls(String page) {
        List<String> told = new ArrayList<>();
        Matcher rows = CALL_ROW.matcher(page);
        while (rows.find()) {
            int parameters = rows.group(2).isEmpty() ? 0 : rows.group(2).split(",").length;
            told.add(rows.group(1) + "/" + parameters);
        }
        TreeSet<String> there = new TreeSet<>();
        for (Method method : TwoAgree.class.getDeclaredMethods()) {
            if (Modifier.isPublic(method.getModifiers())) {
                there.add(method.getName() + "/" + method.getParameterCount());
            }
        }
        Due.holds("each call is told, and none besides: " + told, new TreeSet<>(told).equals(there));
        Due.is("each call is told once", told.size(), there.size());
    }

    private static void constants(String page) throws IllegalAccessException {
        TreeMap<String, Integer> told = new TreeMap<>();
        Matcher rows = CONSTANT_ROW.matcher(page);
        while (rows.find()) {
            told.put(rows.group(1), Integer.valueOf(rows.group(2)));
        }
        TreeMap<String, Integer> there = new TreeMap<>();
        for (Field field : TwoAgree.class.getDeclaredFields()) {
            if (Modifier.isPublic(field.getModifiers())) {
                there.put(field.getName(), field.getInt(null));
            }
        }
        Due.holds("each constant is told: " + told, told.equals(there));
    }

    /** Each test is named, and what is named as one is there. */
    private static void tests(String page) throws IOException {
        TreeSet<String> there = new TreeSet<>();
        try (Stream<Path> files = Files.list(TESTS)) {
            files.map(file -> file.getFileName().toString().replace(".java", ""))
                .filter(name -> name.endsWith("Test")).forEach(there::add);
        }
        TreeSet<String> told = new TreeSet<>();
        Matcher names = Pattern.compile("`(\\w+Test)`").matcher(page);
        while (names.find()) {
            told.add(names.group(1));
        }
        Due.holds("each test is named, and none besides: " + told, told.equals(there));
    }
}
