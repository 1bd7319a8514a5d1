import java.io.IOException;
import java.lang.reflect.Field;
import java.lang.reflect.Method;
import java.lang.reflect.Modifier;
import java.net.URL;
import java.net.URLClassLoader;
import java.nio.file.Files;
import java.nio.file.Path;
import java.util.ArrayList;
import java.util.List;
import java.util.Set;
import java.util.TreeSet;
import java.util.regex.MatchResult;
import java.util.regex.Matcher;
import java.util.regex.Pattern;
import java.util.stream.Collectors;
import java.util.stream.Stream;
import javax.tools.ToolProvider;

/** README.md is right: its examples answer as it says, and each call, constant, test and file that it tells of is there. */
public final class ReadmeTest {
    private static final Pattern BLOCK = Pattern.compile("(?s)\n```java\n(.*?)\n```\n");
    private static final Pattern EXAMPLE = Pattern.compile("x\\.(\\w+\\(.*\\)); +// (-?\\d+|[A-Z]+(?: \\+ [A-Z]+)?)(?:[:,] .*)?");
    private static final Pattern CALL_ROW = Pattern.compile("(?m)^\\| `(\\w+)\\((.*?)\\)` \\|");
    private static final Pattern REFUSAL_ROW = Pattern.compile("(?m)^\\| `([A-Z]+)` \\((-\\d+)\\) \\|");
    private static final Pattern TEST_ROW = Pattern.compile("(?m)^\\| `(\\w+Test)` \\|");
    private static final Pattern FILE = Pattern.compile("(?<![\\w./])(?:src|\\.\\./shared|\\.ci)/[\\w./]*\\w");

    private static int blocks = 0;

    private static List<MatchResult> all(Pattern pattern, String text) {
        return pattern.matcher(text).results().collect(Collectors.toList());
    }

    /** A block with each call's answer, and the one that the page tells, put into a list. */
    private static String program(String block, List<String> calls) {
        StringBuilder lines = new StringBuilder();
        for (String line : block.split("\n")) {
            Matcher example = EXAMPLE.matcher(line);
            boolean isExample = example.matches();
            Due.isTrue("tells an answer: " + line, isExample || !line.startsWith("x."));
            if (isExample) {
                calls.add(example.group(1));
                String told = example.group(2).replaceAll("[A-Z]+", "RoadCobblers.$0");
                lines.append("answers.add(new long[] {x." + example.group(1) + ", " + told + "});\n");
            } else {
                lines.append(line).append('\n');
            }
        }
        return "public final class Example {\npublic static void run(java.util.List<long[]> answers) {\n" + lines + "}\n}\n";
    }

    private static void example(String block, Path root) throws IOException, ReflectiveOperationException {
        blocks++;
        List<String> calls = new ArrayList<>();
        Path folder = Files.createDirectories(root.resolve("build/ci/readme-" + blocks));
        Path file = folder.resolve("Example.java");
        Files.writeString(file, program(block, calls));
        String[] options = {"-Xlint:all", "-Werror", "-cp", System.getProperty("java.class.path"), "-d", folder.toString(), file.toString()};
        int said = ToolProvider.getSystemJavaCompiler().run(null, null, null, options);
        Due.is("the compiler, of block " + blocks, said, 0);
        if (said != 0) return;
        List<long[]> answers = new ArrayList<>();
        try (URLClassLoader loader = new URLClassLoader(new URL[] {folder.toUri().toURL()})) {
            loader.loadClass("Example").getMethod("run", List.class).invoke(null, answers);
        }
        Due.isTrue("block " + blocks + " has examples", !calls.isEmpty());
        for (int i = 0; i < calls.size(); i++) Due.is("block " + blocks + ", " + calls.get(i), answers.get(i)[0], answers.get(i)[1]);
    }

    private static void calls(String page) {
        Set<String> told = new TreeSet<>();
        for (MatchResult row : all(CALL_ROW, page)) {
            String values = row.group(2);
            told.add(row.group(1) + " of " + (values.isEmpty() ? 0 : values.split(",").length));
        }
        Set<String> open = new TreeSet<>();
        for (Method m : RoadCobblers.class.getDeclaredMethods()) {
            if (Modifier.isPublic(m.getModifiers())) open.add(m.getName() + " of " + m.getParameterCount());
        }
        Due.isTrue("the page's calls " + told + " are the face's " + open, told.equals(open));
    }

    private static void refusals(String page) throws IllegalAccessException {
        Set<String> told = new TreeSet<>();
        for (MatchResult row : all(REFUSAL_ROW, page)) told.add(row.group(1) + " " + row.group(2));
        Due.isTrue("the page tells NONE", page.contains("`NONE` (" + RoadCobblers.NONE + ")"));
        Set<String> open = new TreeSet<>();
        for (Field f : RoadCobblers.class.getFields()) {
            boolean isRefusal = f.getType() == int.class && !f.getName().equals("NONE");
            if (isRefusal) open.add(f.getName() + " " + f.getInt(null));
        }
        Due.isTrue("the page's refusals " + told + " are the face's " + open, told.equals(open));
    }

    private static void tests(String page, Path root) throws IOException {
        Set<String> told = new TreeSet<>();
        for (MatchResult row : all(TEST_ROW, page)) told.add(row.group(1));
        try (Stream<Path> files = Files.list(root.resolve("src/test/java"))) {
            Set<String> there = files.map(f -> f.getFileName().toString().replace(".java", "")).filter(f -> f.endsWith("Test"))
                .collect(Collectors.toCollection(TreeSet::new));
            Due.isTrue("the page's tests " + told + " are those there " + there, told.equals(there));
        }
    }

    private static void files(String page, Path root) {
        Set<String> told = new TreeSet<>();
        for (MatchResult file : all(FILE, page)) told.add(file.group());
        Due.isTrue("files are told", told.contains(".ci/run"));
        for (String file : told) Due.isTrue("there is " + file, Files.exists(root.resolve(file)));
        Due.isTrue(".ci/run can be run as it is", Files.isExecutable(root.resolve(".ci/run")));
    }

    public static void main(String[] args) throws IOException, ReflectiveOperationException {
        Path file = Path.of(args[3]).toAbsolutePath();
        String page = Files.readString(file);
        for (MatchResult block : all(BLOCK, page)) example(block.group(1), file.getParent());
        Due.is("blocks, all of them tried", blocks, page.split("```java", -1).length - 1);
        Due.isTrue("examples stand there", blocks > 0);
        calls(page);
        refusals(page);
        tests(page, file.getParent());
        files(page, file.getParent());
        Due.end();
    }
}
