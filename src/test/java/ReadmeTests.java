import java.io.IOException;
import java.lang.reflect.Method;
import java.lang.reflect.Modifier;
import java.net.URL;
import java.net.URLClassLoader;
import java.nio.file.Files;
import java.nio.file.Path;
import java.util.Set;
import java.util.TreeSet;
import java.util.regex.Matcher;
import java.util.regex.Pattern;
import java.util.stream.Stream;
import javax.tools.ToolProvider;

/** What README.md shows: its example compiles, has every call, and tells the answers that are given. */
public final class ReadmeTests {
    private static final Pattern EXAMPLE = Pattern.compile("(?s)```java\n(.*?)```");
    /** A call on a line of its own, with its answer behind it. */
    private static final Pattern ANSWERED =
            Pattern.compile("(?m)^ *(x\\.(\\w+)\\(.*\\)); *// (-?\\d+|[A-Z]+)\\b.*$");
    private static final Pattern FILE = Pattern.compile("\\b(\\w+)\\.java\\b");
    private static final Set<String> NOT_TESTS = Set.of("LikestCase", "Example");
    private static final Check CHECK = new Check();

    private ReadmeTests() {
    }

    public static void main(String[] args) throws Exception {
        String readme = Files.readString(Path.of("README.md"));
        Matcher found = EXAMPLE.matcher(readme);
        CHECK.due("there is an example", found.find());
        String example = found.group(1);
        everyCall(example);
        everyAnswer(example);
        everyTest(readme);
        CHECK.end("ReadmeTests");
    }

    /** For the example as it is run here: it tells of each call what it says of it. */
    public static void due(String call, long got, long want) {
        CHECK.due("README.md: " + call, got, want);
    }

    private static void everyCall(String example) {
        for (Method call : LikestCase.class.getDeclaredMethods()) {
            if (Modifier.isPublic(call.getModifiers())) {
                CHECK.due("the example has " + call.getName(), example.contains("x." + call.getName() + "("));
            }
        }
        for (String line : example.split("\n")) {
            if (line.trim().startsWith("x.")) {
                CHECK.due("has its answer behind it: " + line.trim(), ANSWERED.matcher(line).matches());
            }
        }
    }

    private static void everyAnswer(String example) throws Exception {
        Path place = Files.createTempDirectory("readme");
        compileAt(place, example);
        String asking = ANSWERED.matcher(example).replaceAll(
                one -> Matcher.quoteReplacement("ReadmeTests.due(\"" + one.group(1) + "\", " + one.group(1) + ", "
                        + answer(one.group(3)) + ");"));
        compileAt(place, asking);
        try (URLClassLoader loader = new URLClassLoader(new URL[] {place.toUri().toURL()})) {
            loader.loadClass("Example").getMethod("main", String[].class).invoke(null, (Object) new String[0]);
        }
        removeAll(place);
    }

    private static String answer(String told) {
        return Character.isLetter(told.charAt(0)) ? "LikestCase." + told : told;
    }

    private static void compileAt(Path place, String program) throws IOException {
        Path file = place.resolve("Example.java");
        Files.writeString(file, program);
        int failed = ToolProvider.getSystemJavaCompiler().run(null, null, null, "--release", "17",
                "-cp", System.getProperty("java.class.path"), "-d", place.toString(), file.toString());
        CHECK.due("the example compiles", failed, 0);
    }

    private static void removeAll(Path place) throws IOException {
        try (Stream<Path> files = Files.list(place)) {
            for (Path file : files.toList()) {
                Files.delete(file);
            }
        }
        Files.delete(place);
    }

    /** README.md names each file of the tests, and none that is not there. */
    private static void everyTest(String readme) throws IOException {
        Set<String> named = new TreeSet<>();
        Matcher found = FILE.matcher(readme);
        while (found.find()) {
            named.add(found.group(1));
        }
        named.removeAll(NOT_TESTS);
        Set<String> there = new TreeSet<>();
        try (Stream<Path> files = Files.list(Path.of("src/test/java"))) {
            files.forEach(file -> there.add(file.getFileName().toString().replace(".java", "")));
        }
        CHECK.due("named " + named + ", there " + there, named.equals(there));
        CHECK.due("how to run the tests", readme.contains("`bash .ci/run`"));
        CHECK.due("the script is there", Files.isExecutable(Path.of(".ci/run")));
    }
}
