import java.io.IOException;
import java.lang.reflect.Method;
import java.lang.reflect.Modifier;
import java.net.URL;
import java.net.URLClassLoader;
import java.nio.file.DirectoryStream;
import java.nio.file.Files;
import java.nio.file.Path;
import java.util.ArrayList;
import java.util.List;
import java.util.function.Supplier;
import java.util.regex.Matcher;
import java.util.regex.Pattern;
import javax.tools.JavaCompiler;
import javax.tools.ToolProvider;

/** The examples of README.md answer what they say, and it names every call and every test. */
public final class ReadmeTest {
    private static final Path PAGE = Path.of("README.md");
    private static final Path TESTS = Path.of("src/test/java");
    private static final String EXAMPLE = "ReadmeExample";

    /** A line with one call, and behind it its answer; what follows the answer is for the reader. */
    private static final Pattern TOLD = Pattern.compile("(x\\.\\w+\\(.*\\));\\s*// (-?\\d+)(:.*)?");

    private ReadmeTest() {
    }

    public static void main(String[] args) throws Exception {
        String page = Files.readString(PAGE);
        examples(page);
        calls(page);
        tests(page);
        Check.finish();
    }

    private static void examples(String page) throws Exception {
        List<String> asked = new ArrayList<>();
        List<Long> told = new ArrayList<>();
        StringBuilder body = new StringBuilder();
        for (String line : javaLines(page)) {
            Matcher call = TOLD.matcher(line);
            if (call.matches()) {
                asked.add(call.group(1));
                told.add(Long.parseLong(call.group(2)));
                body.append("got.add((long) ").append(call.group(1)).append(");\n");
            } else {
                Check.isTrue("README tells no answer: " + line, !line.startsWith("x."));
                body.append(line).append('\n');
            }
        }
        Check.isTrue("README has examples", !asked.isEmpty());
        JavaCompiler compiler = ToolProvider.getSystemJavaCompiler();
        if (compiler == null) {
            System.out.println("this java has no compiler in it: README's examples are not run");
            return;
        }
        List<Long> got = answers(compiler, body.toString());
        Check.due("answers of the examples", got.size(), told.size());
        for (int i = 0; i < Math.min(got.size(), told.size()); i++) {
            Check.due("README: " + asked.get(i), got.get(i), told.get(i));
        }
    }

    /** The lines of all blocks of Java, which belong together. */
    private static List<String> javaLines(String page) {
        List<String> result = new ArrayList<>();
        Matcher block = Pattern.compile("(?s)```java\n(.*?)```").matcher(page);
        while (block.find()) {
            result.addAll(List.of(block.group(1).split("\n")));
        }
        return result;
    }

    private static List<Long> answers(JavaCompiler compiler, String body) throws Exception {
        Path folder = Files.createTempDirectory("readme");
        try {
            Path source = folder.resolve(EXAMPLE + ".java");
            Files.writeString(source, "import java.util.*;\n"
                + "public final class " + EXAMPLE + " implements java.util.function.Supplier<List<Long>> {\n"
                + "public List<Long> get() {\nList<Long> got = new ArrayList<>();\n" + body + "return got;\n}\n}\n");
            int exit = compiler.run(null, null, null, "-nowarn", "-classpath", System.getProperty("java.class.path"),
                "-d", folder.toString(), source.toString());
            Check.due("README's examples compile", exit, 0);
            return exit == 0 ? answersIn(folder) : List.of();
        } finally {
            empty(folder);
        }
    }

    private static List<Long> answersIn(Path folder) throws Exception {
        List<Long> result = new ArrayList<>();
        try (URLClassLoader loader = new URLClassLoader(new URL[] {folder.toUri().toURL()})) {
            Object example = loader.loadClass(EXAMPLE).getConstructor().newInstance();
            for (Object answer : (List<?>) ((Supplier<?>) example).get()) {
                result.add((Long) answer);
            }
        }
        return result;
    }

    private static void empty(Path folder) throws IOException {
        try (DirectoryStream<Path> files = Files.newDirectoryStream(folder)) {
            for (Path file : files) {
                Files.delete(file);
            }
        }
        Files.delete(folder);
    }

    /** Each call stands in the table with its number of arguments, and, but for wipe, in an example. */
    private static void calls(String page) {
        String examples = String.join("\n", javaLines(page));
        for (Method m : ChipSlots.class.getDeclaredMethods()) {
            if (Modifier.isPublic(m.getModifiers())) {
                Matcher row = Pattern.compile("(?m)^\\| `" + m.getName() + "\\(([a-z, ]*)\\)` \\|").matcher(page);
                boolean found = row.find();
                Check.isTrue("README has a row for " + m.getName(), found);
                int named = found && !row.group(1).isEmpty() ? row.group(1).split(",").length : 0;
                Check.due("README: arguments of " + m.getName(), named, m.getParameterCount());
                Check.isTrue("README has an example of " + m.getName(),
                    m.getName().equals("wipe") || examples.contains("x." + m.getName() + "("));
            }
        }
    }

    private static void tests(String page) throws IOException {
        try (DirectoryStream<Path> files = Files.newDirectoryStream(TESTS, "*Test.java")) {
            for (Path file : files) {
                Check.isTrue("README names " + file, page.contains(file.getFileName().toString()));
            }
        }
    }
}
