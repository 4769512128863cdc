import java.io.IOException;
import java.lang.reflect.Field;
import java.lang.reflect.Method;
import java.lang.reflect.Modifier;
import java.net.URL;
import java.net.URLClassLoader;
import java.nio.file.Files;
import java.nio.file.Path;
import java.util.Comparator;
import java.util.List;
import java.util.Set;
import java.util.TreeSet;
import java.util.regex.Matcher;
import java.util.regex.Pattern;
import java.util.stream.Collectors;
import java.util.stream.Stream;
import javax.tools.ToolProvider;

/** README.md: its examples answer what it says, its names are those of the class, and its tests are those there are. */
public final class ReadmeTests {
    private static final Path README = Path.of("README.md");
    private static final Path TESTS = Path.of("src/test/java");
    private static final Pattern EXAMPLE = Pattern.compile("(?s)```java\n(.*?)```");
    private static final Pattern ANSWERED = Pattern.compile("(bench\\.\\w+\\(.*\\));\\s*// (-?\\d+|[A-Z_]+): .*");

    private static final Due due = new Due();

    private ReadmeTests() {
    }

    public static void main(String[] args) throws IOException, ReflectiveOperationException {
        String readme = Files.readString(README);
        examplesAnswer(readme);
        constants(readme);
        callsAreNamed(readme);
        testsAreNamed(readme);
        filesAreThere(readme);
        due.end();
    }

    /** What the examples answer; they call this themselves. */
    public static void is(String call, int answer, int wanted) {
        due.is("example: " + call, answer, wanted);
    }

    // ---- the examples

    private static void examplesAnswer(String readme) throws IOException, ReflectiveOperationException {
        int examples = 0;
        Matcher matcher = EXAMPLE.matcher(readme);
        while (matcher.find()) {
            examples++;
            play("Example" + examples, matcher.group(1));
        }
        due.is("examples", examples, 2);
    }

    private static void play(String name, String example) throws IOException, ReflectiveOperationException {
        StringBuilder source = new StringBuilder("public final class " + name + " { public static void play() {\n");
        int calls = 0;
        for (String line : example.split("\n")) {
            Matcher answered = ANSWERED.matcher(line);
            boolean asked = answered.matches();
            calls += asked ? 1 : 0;
            source.append(asked ? judged(answered.group(1), answered.group(2)) : line).append('\n');
        }
        due.is(name + ": calls that are told with their answers", calls > 5 ? 1 : 0, 1);
        Path built = Files.createTempDirectory("readme");
        try {
            run(name, source.append("} }\n").toString(), built);
        } finally {
            delete(built);
        }
    }

    private static String judged(String call, String answer) {
        String wanted = Character.isLetter(answer.charAt(0)) ? "CutRepairer." + answer : answer;
        return "ReadmeTests.is(\"" + call + "\", " + call + ", " + wanted + ");";
    }

    private static void run(String name, String source, Path built) throws IOException, ReflectiveOperationException {
        Path file = Files.writeString(built.resolve(name + ".java"), source);
        int compiled = ToolProvider.getSystemJavaCompiler().run(null, null, null, "-d", built.toString(), "-cp",
            System.getProperty("java.class.path"), file.toString());
        due.is(name + " is compiled", compiled, 0);
        if (compiled == 0) {
            try (URLClassLoader loader = new URLClassLoader(new URL[] {built.toUri().toURL()})) {
                loader.loadClass(name).getMethod("play").invoke(null);
            }
        }
    }

    private static void delete(Path directory) throws IOException {
        try (Stream<Path> files = Files.walk(directory)) {
            for (Path file : files.sorted(Comparator.reverseOrder()).collect(Collectors.toList())) {
                Files.delete(file);
            }
        }
    }

    // ---- the names

    private static void constants(String readme) throws IllegalAccessException {
        for (Field field : CutRepairer.class.getFields()) {
            Pattern row = Pattern.compile("\\| `" + field.getName() + "` +\\| `" + field.getInt(null) + "` +\\|");
            due.is("row of " + field.getName() + " with its number", row.matcher(readme).find() ? 1 : 0, 1);
        }
    }

    private static void callsAreNamed(String readme) {
        Set<String> names = new TreeSet<>();
        for (Method method : CutRepairer.class.getDeclaredMethods()) {
            if (Modifier.isPublic(method.getModifiers())) {
                names.add(method.getName());
                due.is("the call " + method.getName(), readme.contains("`" + method.getName() + "`") ? 1 : 0, 1);
            }
        }
        Matcher called = Pattern.compile("`([a-z]\\w*)(\\(\\))?`").matcher(readme);
        Set<String> others = Set.of("built", "int", "main", "java", "javac");
        while (called.find()) {
            String name = called.group(1);
            due.is("`" + name + "` is a call", names.contains(name) || others.contains(name) ? 1 : 0, 1);
        }
    }

    private static void testsAreNamed(String readme) throws IOException {
        List<String> tests;
        try (Stream<Path> files = Files.list(TESTS)) {
            tests = files.map(file -> file.getFileName().toString().replace(".java", "")).sorted()
                .collect(Collectors.toList());
        }
        for (String test : tests) {
            boolean named = readme.contains("`" + test + "`") || !test.endsWith("Tests");
            due.is("the test " + test, named ? 1 : 0, 1);
        }
        Matcher named = Pattern.compile("`([A-Z][A-Za-z]*Tests)`").matcher(readme);
        while (named.find()) {
            due.is(named.group() + " is a test", tests.contains(named.group(1)) ? 1 : 0, 1);
        }
    }

    private static void filesAreThere(String readme) {
        for (String path : List.of(".ci/run", "../shared/DOC.md", "../shared/LANGUAGE.md", "../shared/tests",
            "src/main/java/CutRepairer.java")) {
            due.is(path + " is told of", readme.contains(path) ? 1 : 0, 1);
            due.is(path + " is there", Files.exists(Path.of(path)) ? 1 : 0, 1);
        }
        due.is(".ci/run can be run", Files.isExecutable(Path.of(".ci/run")) ? 1 : 0, 1);
    }
}
