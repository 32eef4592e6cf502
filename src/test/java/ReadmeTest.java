import java.io.IOException;
import java.lang.reflect.Method;
import java.lang.reflect.Modifier;
import java.net.URL;
import java.net.URLClassLoader;
import java.nio.file.Files;
import java.nio.file.Path;
import java.util.ArrayList;
import java.util.Comparator;
import java.util.List;
import java.util.Set;
import java.util.TreeSet;
import java.util.function.BiConsumer;
import java.util.regex.Matcher;
import java.util.regex.Pattern;
import java.util.stream.Stream;
import javax.tools.ToolProvider;

/** What README.md says is so: its calls give the answers that it names, and it names every test. */
public final class ReadmeTest {
    private static final Pattern BLOCK = Pattern.compile("(?ms)^```java\n(.*?)^```$");
    private static final Pattern ANSWERED =
            Pattern.compile("^(levels\\.(\\w+)\\([^;]*\\)); *// (-?\\d+|BAD|NO|FULL|NONE):.*$");
    private static final Pattern PROMISES = Pattern.compile("`(\\w+Boundaries)`\\s+\\((?:promises )?(\\d+) to (\\d+)\\)");
    private static final int GROUPS = 6;
    private static final Due DUE = new Due();

    public static void main(String[] args) throws IOException, ReflectiveOperationException {
        Path root = Path.of(args.length > 0 ? args[0] : ".");
        String page = Files.readString(root.resolve("README.md"));
        constants(page);
        calls(page);
        tests(page, root);
        promisesOfBoundaries(page);
        DUE.end();
    }

    private static void constants(String page) throws ReflectiveOperationException {
        for (String name : List.of("BAD", "NO", "FULL", "NONE")) {
            Matcher told = Pattern.compile("`" + name + "` \\((-\\d)\\)").matcher(page);
            DUE.is(name + " is told", told.find() ? Integer.parseInt(told.group(1)) : 0,
                    UniverseLevels.class.getField(name).getInt(null));
        }
    }

    /** The page's blocks, one behind the other, are compiled as they stand, but that each answer is looked at. */
    private static void calls(String page) throws IOException, ReflectiveOperationException {
        Set<String> called = new TreeSet<>();
        StringBuilder body = new StringBuilder();
        Matcher block = BLOCK.matcher(page);
        while (block.find()) {
            for (String line : block.group(1).split("\n")) {
                body.append(lookedAt(line, called)).append('\n');
            }
        }
        for (Method method : UniverseLevels.class.getDeclaredMethods()) {
            if (Modifier.isPublic(method.getModifiers())) {
                DUE.is(method.getName() + " is shown", called.contains(method.getName()) ? 1 : 0, 1);
            }
        }
        run(body.toString());
    }

    private static String lookedAt(String line, Set<String> called) {
        Matcher call = ANSWERED.matcher(line);
        if (!call.matches()) {
            DUE.is("names no answer: " + line, line.startsWith("levels.") ? 1 : 0, 0);
            return line;
        }
        called.add(call.group(2));
        String want = call.group(3).matches("-?\\d+") ? call.group(3) : "UniverseLevels." + call.group(3);
        String shown = call.group(1).replace("\"", "\\\"");
        return "due.accept(\"" + shown + "\", new int[] {" + call.group(1) + ", " + want + "});";
    }

    /** The compiled class is loaded apart, so it sees public classes alone: answers come back through a BiConsumer. */
    private static void run(String body) throws IOException, ReflectiveOperationException {
        Path out = Files.createTempDirectory("readme");
        try {
            Path source = out.resolve("ReadmeCalls.java");
            Files.writeString(source, "public final class ReadmeCalls {\n"
                    + "public static void run(java.util.function.BiConsumer<String, int[]> due) {\n" + body + "}\n}\n");
            int failed = ToolProvider.getSystemJavaCompiler().run(null, System.out, System.out, "-cp",
                    System.getProperty("java.class.path"), "-d", out.toString(), source.toString());
            DUE.is("README.md's calls don't compile", failed, 0);
            if (failed == 0) {
                BiConsumer<String, int[]> due = (call, answers) -> DUE.is(call, answers[0], answers[1]);
                try (URLClassLoader loader = new URLClassLoader(new URL[] {out.toUri().toURL()})) {
                    loader.loadClass("ReadmeCalls").getMethod("run", BiConsumer.class).invoke(null, due);
                }
            }
        } finally {
            delete(out);
        }
    }

    private static void delete(Path directory) throws IOException {
        List<Path> all = new ArrayList<>();
        try (Stream<Path> paths = Files.walk(directory)) {
            paths.sorted(Comparator.reverseOrder()).forEach(all::add);
        }
        for (Path path : all) {
            Files.delete(path);
        }
    }

    private static void tests(String page, Path root) throws IOException {
        Path directory = root.resolve("src/test/java");
        List<String> files = new ArrayList<>();
        try (Stream<Path> paths = Files.list(directory)) {
            paths.forEach(path -> files.add(path.getFileName().toString()));
        }
        for (String file : files) {
            if (file.endsWith("Test.java")) {
                String name = file.substring(0, file.length() - ".java".length());
                DUE.is(name + " is in the list", page.contains("- `" + name + "`: ") ? 1 : 0, 1);
            }
        }
        Matcher named = Pattern.compile("`(\\w+(?:Test|Boundaries)|Model)`").matcher(page);
        while (named.find()) {
            DUE.is(named.group(1) + " is there", files.contains(named.group(1) + ".java") ? 1 : 0, 1);
        }
        DUE.is(".ci/run can be run", Files.isExecutable(root.resolve(".ci/run")) ? 1 : 0, 1);
    }

    /** Each class of boundary cases has tests of the promises that are told of it, and of no others. */
    private static void promisesOfBoundaries(String page) throws ReflectiveOperationException {
        Matcher told = PROMISES.matcher(page);
        int groups = 0;
        while (told.find()) {
            groups++;
            Set<Integer> want = new TreeSet<>();
            for (int promise = Integer.parseInt(told.group(2)); promise <= Integer.parseInt(told.group(3)); promise++) {
                want.add(promise);
            }
            Set<Integer> got = new TreeSet<>();
            for (Method test : Class.forName(told.group(1)).getDeclaredMethods()) {
                if (test.getName().matches("promise\\d\\d.*")) {
                    got.add(Integer.parseInt(test.getName().substring(7, 9)));
                }
            }
            DUE.is(told.group(1) + " has " + got, got.equals(want) ? 1 : 0, 1);
        }
        DUE.is("groups of promises", groups, GROUPS);
    }
}
