import java.io.IOException;
import java.lang.reflect.Method;
import java.net.URL;
import java.net.URLClassLoader;
import java.nio.file.Files;
import java.nio.file.Path;
import java.util.ArrayList;
import java.util.List;
import java.util.Set;
import java.util.TreeSet;
import java.util.regex.Matcher;
import java.util.regex.Pattern;
import java.util.stream.Collectors;
import java.util.stream.Stream;
import javax.tools.ToolProvider;

/** README.md: its example answers what it says, and it names the tests that there are. */
public final class ReadmeTest {
    private static final Path README = Path.of("README.md");
    private static final Path TESTS = Path.of("src/test/java");

    /** A line of the example: a type, a name, the call, and what it answers. */
    private static final Pattern ANSWERED = Pattern.compile("(?:int|long|boolean) (\\w+) = .*;\\s+// ([-\\w]+).*");
    private static final Pattern TEST_NAME = Pattern.compile("`(\\w+Test)`");

    public static void main(String[] args) throws Exception {
        exampleAnswersWhatItSays();
        testsAreNamed();
        Check.end("ReadmeTest");
    }

    private static void exampleAnswersWhatItSays() throws Exception {
        StringBuilder body = new StringBuilder();
        List<String> lines = new ArrayList<>();
        List<String> due = new ArrayList<>();
        for (String line : example()) {
            body.append(line).append('\n');
            Matcher answered = ANSWERED.matcher(line);
            if (answered.matches()) {
                lines.add(line);
                due.add(answered.group(2));
                body.append("answers.add(String.valueOf(").append(answered.group(1)).append("));\n");
            }
        }
        Check.yes("README: the example has answers", due.size() > 0);
        List<?> got = run(body.toString());
        for (int n = 0; n < due.size(); n++) {
            Check.yes("README: " + lines.get(n) + " answered " + got.get(n), due.get(n).equals(got.get(n)));
        }
    }

    private static List<String> example() throws IOException {
        List<String> all = Files.readAllLines(README);
        int begin = all.indexOf("```java") + 1;
        return all.subList(begin, begin + all.subList(begin, all.size()).indexOf("```"));
    }

    private static List<?> run(String body) throws Exception {
        Path room = Files.createTempDirectory("readme");
        Path file = room.resolve("Example.java");
        Files.writeString(file, "public final class Example { public static java.util.List<String> answers() {\n"
                + "java.util.List<String> answers = new java.util.ArrayList<>();\n" + body + "return answers; } }\n");
        int failed = ToolProvider.getSystemJavaCompiler().run(null, null, null,
                "-cp", System.getProperty("java.class.path"), "-d", room.toString(), file.toString());
        Check.same("README: the example compiles", failed, 0);
        try (URLClassLoader loader = new URLClassLoader(new URL[] {room.toUri().toURL()})) {
            Method answers = loader.loadClass("Example").getMethod("answers");
            return (List<?>) answers.invoke(null);
        } finally {
            Files.deleteIfExists(room.resolve("Example.class"));
            Files.delete(file);
            Files.delete(room);
        }
    }

    private static void testsAreNamed() throws IOException {
        Set<String> named = new TreeSet<>();
        Matcher names = TEST_NAME.matcher(Files.readString(README));
        while (names.find()) {
            named.add(names.group(1));
        }
        Set<String> there;
        try (Stream<Path> files = Files.list(TESTS)) {
            there = files.map(f -> f.getFileName().toString()).filter(f -> f.endsWith("Test.java"))
                    .map(f -> f.substring(0, f.length() - ".java".length())).collect(Collectors.toCollection(TreeSet::new));
        }
        Check.yes("README names " + named + ", there are " + there, named.equals(there));
    }
}
