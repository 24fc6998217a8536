import java.io.ByteArrayOutputStream;
import java.io.OutputStream;
import java.io.PrintStream;
import java.lang.reflect.Method;
import java.net.URI;
import java.nio.file.Files;
import java.nio.file.Path;
import java.util.ArrayList;
import java.util.HashMap;
import java.util.List;
import java.util.Map;
import java.util.concurrent.ExecutorService;
import java.util.concurrent.Executors;
import java.util.concurrent.Future;
import java.util.concurrent.TimeUnit;
import java.util.concurrent.TimeoutException;
import java.util.regex.Matcher;
import java.util.regex.Pattern;
import java.util.stream.Collectors;
import java.util.stream.Stream;
import javax.tools.FileObject;
import javax.tools.ForwardingJavaFileManager;
import javax.tools.JavaCompiler;
import javax.tools.JavaFileManager;
import javax.tools.JavaFileObject;
import javax.tools.SimpleJavaFileObject;
import javax.tools.StandardJavaFileManager;
import javax.tools.ToolProvider;

/**
 * Breaks the class at one place at a time and tells which breaks no boundary case notices. Run by hand, from the
 * project's folder, it takes some minutes:
 *
 *     java src/test/mutants/Mutants.java [line ..]
 *
 * With numbers only those lines of the class are broken.
 *
 * What it lists is to be read: a break that can not be seen from outside (a guard that no state reaches, a bound that is
 * larger than need be) is fine, any other wants a test.
 */
public final class Mutants {
    private static final Path CLASS = Path.of("src/main/java/BlindPages.java");
    private static final Path TESTS = Path.of("src/test/java");
    private static final int SECONDS = 30;
    private static final JavaCompiler JAVAC = ToolProvider.getSystemJavaCompiler();

    /** A break: the line (0 on) and what it becomes. */
    private record Mutant(int line, String text) {
    }

    public static void main(String[] args) throws Exception {
        List<String> lines = Files.readAllLines(CLASS);
        Map<String, byte[]> tests = compile(String.join("\n", lines), true);
        List<String> names = tests.keySet().stream().filter(n -> n.matches("(Terms|Promise\\d+)Test")).sorted().collect(Collectors.toList());
        PrintStream out = System.out;
        System.setOut(new PrintStream(OutputStream.nullOutputStream()));
        if (!"".equals(noticedBy(tests, Map.of(), names))) throw new IllegalStateException("the class itself does not pass");
        List<String> only = List.of(args);
        List<Mutant> mutants = mutants(lines).stream().filter(m -> only.isEmpty() || only.contains(Integer.toString(m.line + 1))).collect(Collectors.toList());
        ExecutorService workers = Executors.newFixedThreadPool(Runtime.getRuntime().availableProcessors(), Mutants::daemon);
        List<Future<String>> results = new ArrayList<>();
        for (Mutant m : mutants) results.add(workers.submit(() -> result(m, lines, tests, names)));
        Map<String, Integer> counts = new HashMap<>();
        for (int i = 0; i < mutants.size(); i++) {
            String result = results.get(i).get();
            counts.merge(result, 1, Integer::sum);
            Mutant m = mutants.get(i);
            if (result.equals("unnoticed")) out.println((m.line + 1) + ": " + lines.get(m.line).trim() + "\n    became " + m.text.trim());
        }
        out.println(counts);
        System.exit(0);
    }

    private static Thread daemon(Runnable r) {
        Thread t = new Thread(r);
        t.setDaemon(true);
        return t;
    }

    private static String result(Mutant m, List<String> lines, Map<String, byte[]> tests, List<String> names) throws Exception {
        List<String> broken = new ArrayList<>(lines);
        broken.set(m.line, m.text);
        Map<String, byte[]> classes = compile(String.join("\n", broken), false);
        if (classes.isEmpty()) return "not compiled";
        ExecutorService one = Executors.newSingleThreadExecutor(Mutants::daemon);
        Future<String> noticed = one.submit(() -> noticedBy(tests, classes, names));
        try {
            return noticed.get(SECONDS, TimeUnit.SECONDS).isEmpty() ? "unnoticed" : "noticed";
        } catch (TimeoutException e) {
            return "without end";
        } finally {
            one.shutdownNow();
        }
    }

    /** The first test class that notices; empty if none does. */
    private static String noticedBy(Map<String, byte[]> tests, Map<String, byte[]> broken, List<String> names) throws Exception {
        Map<String, byte[]> all = new HashMap<>(tests);
        all.putAll(broken);
        ClassLoader loader = new Loader(all);
        Method wrongIn = loader.loadClass("Edges").getDeclaredMethod("wrongIn", Class.class, String[].class);
        wrongIn.setAccessible(true);
        for (String name : names) {
            try {
                if ((int) wrongIn.invoke(null, loader.loadClass(name), new String[0]) > 0) return name;
            } catch (java.lang.reflect.InvocationTargetException e) {
                return name;
            }
        }
        return "";
    }

    // ---- breaking

    private static final String[][] SWAPS = {{" <= ", " < "}, {" < ", " <= "}, {" >= ", " > "}, {" > ", " >= "}, {" == ", " != "}, {" != ", " == "},
        {" && ", " || "}, {" || ", " && "}, {" + ", " - "}, {" - ", " + "}, {" * ", " + "}, {" / ", " * "}, {" % ", " / "}, {"BAD)", "NO)"}, {"NO)", "FULL)"},
        {"FULL)", "BAD)"}, {"true", "false"}, {"false", "true"}, {"Math.max", "Math.min"}, {"Math.min", "Math.max"}, {"++", "--"}, {"+= ", "-= "},
        {" : ", " + 1 : "}, {"? ", "? 1 + "}, {">>> ", "<< "}, {"WORDS", "PAGES - 1"}, {"(!", "("}};
    private static final Pattern NUMBER = Pattern.compile("(?<![\\w.])\\d+");

    private static List<Mutant> mutants(List<String> lines) {
        List<Mutant> all = new ArrayList<>();
        for (int i = 0; i < lines.size(); i++) {
            String line = lines.get(i), code = line.trim();
            if (code.isEmpty() || code.startsWith("/*") || code.startsWith("*") || code.startsWith("//")) continue;
            for (String[] swap : SWAPS) {
                for (int at = line.indexOf(swap[0]); at >= 0; at = line.indexOf(swap[0], at + 1)) {
                    all.add(new Mutant(i, line.substring(0, at) + swap[1] + line.substring(at + swap[0].length())));
                }
            }
            Matcher number = NUMBER.matcher(line);
            while (number.find()) {
                for (int by : new int[] {-1, 1}) {
                    long n = Long.parseLong(number.group()) + by;
                    all.add(new Mutant(i, line.substring(0, number.start()) + n + line.substring(number.end())));
                }
            }
            if (code.endsWith(";") && !code.startsWith("return")) all.add(new Mutant(i, ""));
            if (code.startsWith("if (") && code.endsWith(") {")) {
                all.add(new Mutant(i, line.replace("if (", "if (!(").replaceAll("\\) \\{$", ")) {")));
            }
            if (code.startsWith("return ") && !code.contains("refuse")) all.add(new Mutant(i, line.replaceFirst("return (.*);", "return 1 + ($1);")));
        }
        return all;
    }

    // ---- compiling and loading in memory

    private static final class Source extends SimpleJavaFileObject {
        private final String text;

        Source(String name, String text) {
            super(URI.create("string:///" + name), Kind.SOURCE);
            this.text = text;
        }

        @Override
        public CharSequence getCharContent(boolean ignore) {
            return text;
        }
    }

    private static final class Target extends SimpleJavaFileObject {
        final ByteArrayOutputStream bytes = new ByteArrayOutputStream();

        Target(String name) {
            super(URI.create("string:///" + name + ".class"), Kind.CLASS);
        }

        @Override
        public OutputStream openOutputStream() {
            return bytes;
        }
    }

    private static final class Memory extends ForwardingJavaFileManager<StandardJavaFileManager> {
        final Map<String, Target> targets = new HashMap<>();

        Memory(StandardJavaFileManager manager) {
            super(manager);
        }

        @Override
        public JavaFileObject getJavaFileForOutput(JavaFileManager.Location l, String name, JavaFileObject.Kind kind, FileObject sibling) {
            Target target = new Target(name);
            targets.put(name, target);
            return target;
        }
    }

    private static Map<String, byte[]> compile(String text, boolean withTests) throws Exception {
        List<JavaFileObject> sources = new ArrayList<>(List.of(new Source("BlindPages.java", text)));
        if (withTests) {
            try (Stream<Path> files = Files.list(TESTS)) {
                for (Path p : files.collect(Collectors.toList())) sources.add(new Source(p.getFileName().toString(), Files.readString(p)));
            }
        }
        Memory memory = new Memory(JAVAC.getStandardFileManager(null, null, null));
        boolean done = JAVAC.getTask(new java.io.StringWriter(), memory, null, List.of("-nowarn"), null, sources).call();
        Map<String, byte[]> classes = new HashMap<>();
        if (done) memory.targets.forEach((name, target) -> classes.put(name, target.bytes.toByteArray()));
        return classes;
    }

    private static final class Loader extends ClassLoader {
        private final Map<String, byte[]> classes;

        Loader(Map<String, byte[]> classes) {
            super(ClassLoader.getPlatformClassLoader());
            this.classes = classes;
        }

        @Override
        protected Class<?> findClass(String name) throws ClassNotFoundException {
            byte[] bytes = classes.get(name);
            if (bytes == null) throw new ClassNotFoundException(name);
            return defineClass(name, bytes, 0, bytes.length);
        }
    }
}
