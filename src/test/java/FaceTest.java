import java.lang.reflect.Constructor;
import java.lang.reflect.Field;
import java.lang.reflect.Method;
import java.lang.reflect.Modifier;
import java.nio.file.Path;
import java.util.ArrayList;
import java.util.List;
import java.util.TreeSet;
import java.util.stream.Collectors;

/** The public face: every constant, the constructor and every method, with just these names, parameters and types. */
public final class FaceTest extends Edges {
    /** As it stands in the document. */
    private static final String FACE = """
        public final class BlindPages {
            public static final int NONE = -1, BAD = -2, NO = -3, FULL = -4;
            public BlindPages();
            public int type(int c);
            public int clear();
            public int add();
            public int takeOut();
            public int does();
            public int draw(int seed, int n, int signs, int letters);
            public int deals(int m);
            public int anew();
            public int finds(int what);
            public int way(int l, int what);
            public int looks(int p, int what);
            public int begins(int what);
            public int between(int k);
            public int sign(int k, int i);
            public int parts(int k);
            public int page(int p, int what);
            public int fork(int p, int f, int what);
            public int all(int what);
            public int back();
            public int told(int what);
            public long digest();
        """;

    public static void main(String[] args) {
        runs(FaceTest.class, args);
    }

    /** What is told in the class's text as public, each with its parameters' names. */
    static void face_asTheDocumentHasIt() {
        List<String> told = new Source(Path.of("src/main/java/BlindPages.java")).lines.stream().filter(l -> l.matches(" *public .*"))
            .map(l -> l.startsWith("public") ? l : l.replaceAll(" \\{$", ";")).collect(Collectors.toList());
        Check.due("public lines", String.join("\n", told) + "\n", FACE);
    }

    static void face_theConstants() {
        List<String> constants = new ArrayList<>();
        for (Field f : BlindPages.class.getDeclaredFields()) if (!Modifier.isPrivate(f.getModifiers())) constants.add(f.toGenericString());
        String open = "public static final int BlindPages.";
        Check.due("constants", constants.toString(), List.of(open + "NONE", open + "BAD", open + "NO", open + "FULL").toString());
        Check.due("NONE", BlindPages.NONE, -1);
        Check.due("BAD", BlindPages.BAD, -2);
        Check.due("NO", BlindPages.NO, -3);
        Check.due("FULL", BlindPages.FULL, -4);
    }

    static void face_theConstructor() {
        Constructor<?>[] all = BlindPages.class.getDeclaredConstructors();
        Check.due("constructors", all.length, 1);
        Check.due("constructor", all[0].toGenericString(), "public BlindPages()");
    }

    /** By what the class has, not by its text: types, and nothing that is thrown. */
    static void face_theMethods() {
        TreeSet<String> due = new TreeSet<>(), has = new TreeSet<>();
        for (String line : FACE.split("\n")) {
            if (!line.matches(" +public (int|long) .*")) continue;
            String named = line.trim().replaceAll("(?<=[(,])( ?int) \\w+", "$1").replace(", ", ",").replace(";", "");
            due.add(named.replaceAll("^public (\\w+) ", "public $1 BlindPages."));
        }
        for (Method m : BlindPages.class.getDeclaredMethods()) if (!Modifier.isPrivate(m.getModifiers())) has.add(m.toGenericString());
        Check.due("methods", has.toString(), due.toString());
        Check.due("methods", has.size(), 21);
    }

    static void face_theClassIsPublicAndFinal() {
        Check.due("modifiers", BlindPages.class.getModifiers(), Modifier.PUBLIC | Modifier.FINAL);
        Check.due("above it", BlindPages.class.getSuperclass().getName(), "java.lang.Object");
        Check.due("interfaces", BlindPages.class.getInterfaces().length, 0);
        Check.due("package", BlindPages.class.getPackageName(), "");
    }
}
