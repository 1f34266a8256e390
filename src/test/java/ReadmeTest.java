import java.io.IOException;
import java.lang.reflect.Method;
import java.lang.reflect.Modifier;
import java.net.URL;
import java.net.URLClassLoader;
import java.nio.file.Files;
import java.nio.file.Path;
import java.util.ArrayList;
import java.util.List;
import java.util.Set;
import java.util.TreeSet;
import java.util.regex.Matcher;
import java.util.regex.Pattern;
import java.util.stream.Stream;
import javax.tools.JavaCompiler;
import javax.tools.ToolProvider;

/** README.md: the calls that it shows answer as it says, it shows every call, and names every test. */
public final class ReadmeTest {
    private static final Path README = Path.of("README.md");
    private static final Path TESTS = Path.of("src/test/java");
    private static final Pattern SHOWN = Pattern.compile("^(?:int (\\w+) = )?(x\\.(\\w+)\\(.*\\));\\s*// (-?\\d+)(?::.*)?$");
    private static final Pattern MADE = Pattern.compile("^RollingLoads x = new RollingLoads\\(\\);$");

    /** The statements of the README, with what each answers put into a row of answers. */
    private final StringBuilder program = new StringBuilder();
    private final List<String> calls = new ArrayList<>();
    private final List<Long> wants = new ArrayList<>();
    private final Set<String> named = new TreeSet<>();

    private void readCalls(List<String> lines) {
        boolean inside = false;
        for (String line : lines) {
            if (line.startsWith("```")) {
                inside = line.equals("```java");
            } else if (inside) {
                readCall(line);
            }
        }
    }

    private void readCall(String line) {
        Matcher shown = SHOWN.matcher(line);
        if (shown.matches()) {
            String name = shown.group(1);
            String value = name == null ? shown.group(2) : name;
            program.append(name == null ? "" : "int " + name + " = " + shown.group(2) + ";\n");
            program.append("answers[").append(calls.size()).append("] = ").append(value).append(";\n");
            calls.add(shown.group(2));
            named.add(shown.group(3));
            wants.add(Long.parseLong(shown.group(4)));
        } else {
            Due.holds("a call with its answer: " + line, MADE.matcher(line).matches());
            program.append(line).append('\n');
        }
    }

    private void runCalls() throws IOException, ReflectiveOperationException {
        Path room = Files.createTempDirectory("readme");
        Path source = room.resolve("Shown.java");
        Files.writeString(source, "public final class Shown { public static void run(long[] answers) {\n" + program + "} }\n");
        JavaCompiler compiler = ToolProvider.getSystemJavaCompiler();
        int result = compiler.run(null, System.out, System.out, "-cp", System.getProperty("java.class.path"),
                "-d", room.toString(), source.toString());
        Due.due("compiling what README.md shows", result, 0);
        if (result == 0) {
            long[] answers = new long[calls.size()];
            try (URLClassLoader loader = new URLClassLoader(new URL[] {room.toUri().toURL()})) {
                loader.loadClass("Shown").getMethod("run", long[].class).invoke(null, (Object) answers);
            }
            for (int i = 0; i < answers.length; i++) {
                Due.due(calls.get(i), answers[i], wants.get(i));
            }
        }
        Files.deleteIfExists(room.resolve("Shown.class"));
        Files.delete(source);
        Files.delete(room);
    }

    private void everyCallIsShown() {
        for (Method m : RollingLoads.class.getDeclaredMethods()) {
            if (Modifier.isPublic(m.getModifiers())) {
                Due.holds(m.getName() + " is shown", named.contains(m.getName()));
            }
        }
    }

    private static void everyTestIsNamed(String text) throws IOException {
        Set<String> there = new TreeSet<>();
        try (Stream<Path> files = Files.list(TESTS)) {
            files.map(file -> file.getFileName().toString().replace(".java", ""))
                    .filter(name -> name.endsWith("Test")).forEach(there::add);
        }
        Set<String> told = new TreeSet<>();
        Matcher names = Pattern.compile("`(\\w+Test)`").matcher(text);
        while (names.find()) {
            told.add(names.group(1));
        }
        Due.holds("the tests " + told + " are those that there are: " + there, told.equals(there));
    }

    public static void main(String[] args) throws IOException, ReflectiveOperationException {
        Due.begin("README.md");
        ReadmeTest readme = new ReadmeTest();
        readme.readCalls(Files.readAllLines(README));
        readme.runCalls();
        readme.everyCallIsShown();
        everyTestIsNamed(Files.readString(README));
        Due.end();
    }
}
