import java.io.File;
import java.io.IOException;
import java.lang.reflect.Field;
import java.lang.reflect.Method;
import java.lang.reflect.Modifier;
import java.net.URL;
import java.net.URLClassLoader;
import java.nio.file.Files;
import java.nio.file.Path;
import java.util.ArrayList;
import java.util.List;
import java.util.regex.Matcher;
import java.util.regex.Pattern;

/** What README.md says of the class and of its tests, held against how they stand. */
public final class ReadmeTest {
    private static final Path README = Path.of("README.md");
    private static final Path TESTS = Path.of("src/test/java");
    /** A call of the example with the answer that is told beside it. */
    private static final Pattern ANSWERED = Pattern.compile("\\s*(garden\\.\\w+\\([^;]*\\));\\s*// (-?\\d+): .*");

    private static final Due due = new Due("ReadmeTest");

    public static void main(String[] args) throws Exception {
        String page = Files.readString(README);
        example(page);
        faceIsNamed(page);
        testsAreNamed(page);
        due.end();
    }

    private static void example(String page) throws Exception {
        Matcher block = Pattern.compile("(?s)```java\n(.*?)```").matcher(page);
        due.holds("there is an example", block.find());
        List<String> calls = new ArrayList<>();
        List<Long> told = new ArrayList<>();
        StringBuilder body = new StringBuilder();
        for (String line : block.group(1).split("\n")) {
            Matcher answered = ANSWERED.matcher(line);
            if (answered.matches()) {
                calls.add(answered.group(1));
                told.add(Long.valueOf(answered.group(2)));
                body.append("answers.add((long) ").append(answered.group(1)).append(");\n");
            } else {
                body.append(line).append('\n');
            }
        }
        List<Long> answers = answersOf(body.toString());
        due.holds("the example tells answers", !calls.isEmpty());
        due.is("the example's answers", answers.size(), calls.size());
        for (int i = 0; i < Math.min(answers.size(), calls.size()); i++) {
            due.is("the example's " + calls.get(i), answers.get(i), told.get(i));
        }
    }

    /** Compiles and runs the example as it stands on the page, but for the answers, which are gathered. */
    private static List<Long> answersOf(String body) throws Exception {
        Path work = Files.createTempDirectory("readme");
        Path source = work.resolve("Example.java");
        Path compiled = work.resolve("Example.class");
        Files.writeString(source, "import java.util.*;\npublic final class Example {\n"
                + "public static List<Long> answers() {\nList<Long> answers = new ArrayList<>();\n"
                + body + "return answers;\n}\n}\n");
        try {
            Process compiler = new ProcessBuilder("javac", "-cp", System.getProperty("java.class.path"),
                    "-d", work.toString(), source.toString()).inheritIO().start();
            int status = compiler.waitFor();
            due.is("the example compiles", status, 0);
            return status == 0 ? answersFrom(work) : List.of();
        } finally {
            Files.deleteIfExists(compiled);
            Files.deleteIfExists(source);
            Files.deleteIfExists(work);
        }
    }

    private static List<Long> answersFrom(Path work) throws Exception {
        try (URLClassLoader loader = new URLClassLoader(new URL[] {work.toUri().toURL()})) {
            List<Long> answers = new ArrayList<>();
            for (Object answer : (List<?>) loader.loadClass("Example").getMethod("answers").invoke(null)) {
                answers.add((Long) answer);
            }
            return answers;
        }
    }

    private static void faceIsNamed(String page) throws IllegalAccessException {
        for (Method m : BenchMemories.class.getDeclaredMethods()) {
            if (Modifier.isPublic(m.getModifiers())) {
                due.holds("named on the page: " + m.getName(), page.contains("`" + m.getName() + "`"));
            }
        }
        for (Field f : BenchMemories.class.getFields()) {
            String name = "`" + f.getName() + "`";
            boolean isLong = f.getType() == long.class;
            String said = isLong ? name : name + " (" + f.getInt(null) + ")";
            due.holds("on the page: " + said, page.contains(said));
        }
    }

    private static void testsAreNamed(String page) throws IOException {
        File[] files = TESTS.toFile().listFiles();
        due.holds("there are tests", files != null && files.length > 0);
        for (File file : files) {
            String name = file.getName().replace(".java", "");
            if (name.endsWith("Test")) {
                due.holds("named on the page: " + name, page.contains("`" + name + "`"));
            }
        }
        Matcher named = Pattern.compile("`(\\w+Test)`").matcher(page);
        while (named.find()) {
            due.holds("there is a " + named.group(1), Files.exists(TESTS.resolve(named.group(1) + ".java")));
        }
        Matcher paths = Pattern.compile("`(src/[\\w./]+)`").matcher(page);
        while (paths.find()) {
            due.holds("there is a " + paths.group(1), Files.exists(Path.of(paths.group(1))));
        }
        due.holds("the page says how the tests are run", page.contains("bash .ci/run"));
    }
}
