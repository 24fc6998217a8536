import java.io.IOException;
import java.lang.reflect.Method;
import java.lang.reflect.Modifier;
import java.net.URL;
import java.net.URLClassLoader;
import java.nio.file.Files;
import java.nio.file.Path;
import java.util.ArrayList;
import java.util.List;
import java.util.TreeSet;
import java.util.regex.Matcher;
import java.util.regex.Pattern;
import java.util.stream.Collectors;
import java.util.stream.Stream;
import javax.tools.ToolProvider;

/** README.md: its examples compile and answer what they say; its tables have every call and every test. */
public final class ReadmeTest extends Edges {
    private static final Pattern BLOCK = Pattern.compile("(?s)```java\n(.*?)```");
    private static final Pattern CALL = Pattern.compile("(x\\.\\w+\\(.*\\)); +// (-?\\d+)(:? .*)?");
    private static final Pattern OTHER = Pattern.compile("|BlindPages x = new BlindPages\\(\\);|for \\(char c : \"[^\"]+\"\\.toCharArray\\(\\)\\) x\\.type\\(c\\);");

    public static void main(String[] args) {
        runs(ReadmeTest.class, args);
    }

    private static String readme() throws IOException {
        return Files.readString(Path.of("README.md"));
    }

    /** The first column of the tables' rows. */
    private static List<String> rows() throws IOException {
        return readme().lines().filter(l -> l.startsWith("| ")).map(l -> l.split(" \\| ")[0].substring(2)).collect(Collectors.toList());
    }

    static void readme_theExamplesAnswerWhatTheySay() throws Exception {
        Matcher blocks = BLOCK.matcher(readme());
        int examples = 0;
        while (blocks.find()) {
            examples++;
            example(blocks.group(1));
        }
        Check.due("examples", examples, 2);
    }

    private static void example(String text) throws Exception {
        StringBuilder program = new StringBuilder("public class Example {\n public static void run(java.util.List<Long> answers) {\n");
        List<String> calls = new ArrayList<>(), due = new ArrayList<>();
        for (String line : text.split("\n")) {
            Matcher call = CALL.matcher(line);
            if (!call.matches()) {
                Check.due(line, OTHER.matcher(line).matches() ? "taken" : "neither a call with its answer nor a text", "taken");
                program.append(line).append('\n');
                continue;
            }
            program.append("answers.add((long) ").append(call.group(1)).append(");\n");
            calls.add(call.group(1));
            due.add(call.group(2));
        }
        List<Long> answers = run(program.append(" }\n}\n").toString());
        Check.due("answers", answers.size(), due.size());
        for (int i = 0; i < due.size(); i++) Check.due(calls.get(i), Long.toString(answers.get(i)), due.get(i));
    }

    private static List<Long> run(String program) throws Exception {
        Path folder = Files.createTempDirectory("readme");
        Path file = Files.writeString(folder.resolve("Example.java"), program);
        List<Long> answers = new ArrayList<>();
        String classes = System.getProperty("java.class.path");
        int failed = ToolProvider.getSystemJavaCompiler().run(null, null, null, "-cp", classes, "-d", folder.toString(), file.toString());
        Check.due("the example compiles", failed, 0);
        try (URLClassLoader loader = new URLClassLoader(new URL[] {folder.toUri().toURL()})) {
            loader.loadClass("Example").getMethod("run", List.class).invoke(null, answers);
        }
        Files.deleteIfExists(folder.resolve("Example.class"));
        Files.deleteIfExists(file);
        Files.deleteIfExists(folder);
        return answers;
    }

    static void readme_everyCallHasARow() throws IOException {
        TreeSet<String> due = new TreeSet<>(), has = new TreeSet<>();
        for (Method m : BlindPages.class.getDeclaredMethods()) {
            if (Modifier.isPublic(m.getModifiers())) due.add(m.getName() + " of " + m.getParameterCount());
        }
        for (String row : rows()) {
            Matcher call = Pattern.compile("`(\\w+)\\((.*)\\)`").matcher(row);
            if (call.matches()) has.add(call.group(1) + " of " + (call.group(2).isEmpty() ? 0 : call.group(2).split(", ").length));
        }
        Check.due("calls", has.toString(), due.toString());
    }

    static void readme_everyRefusalHasARow() throws IOException {
        List<String> rows = rows();
        String[] refusals = {"`BAD` " + BAD, "`NO` " + NO, "`FULL` " + FULL};
        for (String refusal : refusals) Check.due(refusal, rows.contains(refusal) ? 1 : 0, 1);
    }

    static void readme_everyTestHasARow() throws IOException {
        TreeSet<String> due, has = new TreeSet<>();
        try (Stream<Path> files = Files.list(Path.of("src/test/java"))) {
            due = files.map(f -> f.getFileName().toString().replace(".java", "")).filter(n -> n.endsWith("Test")).collect(Collectors.toCollection(TreeSet::new));
        }
        for (String row : rows()) {
            if (row.equals("Promise01Test .. Promise22Test")) for (int n = 1; n <= 22; n++) has.add(String.format("Promise%02dTest", n));
            else if (row.endsWith("Test")) has.add(row);
        }
        Check.due("tests", has.toString(), due.toString());
    }
}
