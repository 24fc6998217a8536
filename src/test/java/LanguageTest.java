import java.lang.reflect.Constructor;
import java.lang.reflect.Field;
import java.lang.reflect.Method;
import java.lang.reflect.Modifier;
import java.nio.file.Files;
import java.nio.file.Path;
import java.util.ArrayList;
import java.util.HashSet;
import java.util.List;
import java.util.Set;
import java.util.TreeSet;
import java.util.regex.Matcher;
import java.util.regex.Pattern;

/** The rules of LANGUAGE.md that can be seen from the class and from its text. */
public final class LanguageTest {
    private static final String FACE = "BlindPages() add() all(int) anew() back() begins(int) between(int) clear() deals(int) digest() does()"
        + " draw(int,int,int,int) finds(int) fork(int,int,int) looks(int,int) page(int,int) parts(int) sign(int,int) takeOut() told(int)"
        + " type(int) way(int,int)";
    private static final String[] FORBIDDEN = {"throw", "throws", "try", "catch", "finally", "synchronized", "assert", "import", "package",
        "native", "volatile", "Object", "System", "Thread", "equals", "hashCode", "toString", "double", "float"};

    public static void main(String[] args) throws Exception {
        face();
        members();
        text(Files.readString(Path.of("src/main/java/BlindPages.java")));
        Check.end();
    }

    private static void face() {
        Set<String> face = new TreeSet<>();
        for (Constructor<?> c : BlindPages.class.getDeclaredConstructors()) face.add(told(c.toString(), c.getParameterTypes()));
        for (Method m : BlindPages.class.getDeclaredMethods()) {
            if (!Modifier.isPrivate(m.getModifiers())) face.add(told(m.toString(), m.getParameterTypes()));
            Check.due("a static one of " + m, Modifier.isPublic(m.getModifiers()) && Modifier.isStatic(m.getModifiers()) ? 1 : 0, 0);
        }
        Check.due("rule 1, the face", String.join(" ", face), FACE);
        Set<String> constants = new TreeSet<>();
        for (Field f : BlindPages.class.getDeclaredFields()) {
            if (!Modifier.isPrivate(f.getModifiers())) constants.add(f.getName());
        }
        Check.due("rule 1, the constants", constants.toString(), "[BAD, FULL, NO, NONE]");
        Check.due("rule 1, public and final", BlindPages.class.getModifiers(), Modifier.PUBLIC | Modifier.FINAL);
    }

    private static String told(String member, Class<?>[] types) {
        List<String> names = new ArrayList<>();
        for (Class<?> type : types) names.add(type.getSimpleName());
        String open = member.substring(0, member.indexOf('('));
        String name = open.substring(open.lastIndexOf(' ') + 1);
        return name.substring(name.lastIndexOf('.') + 1) + "(" + String.join(",", names) + ")";
    }

    private static void members() {
        Set<String> names = new HashSet<>();
        for (Method m : BlindPages.class.getMethods()) {
            if (m.getDeclaringClass() == BlindPages.class) names.add(m.getName());
        }
        List<Class<?>> classes = new ArrayList<>(List.of(BlindPages.class.getDeclaredClasses()));
        for (Class<?> inside : classes) {
            Check.due("rule 2, static: " + inside, Modifier.isStatic(inside.getModifiers()) ? 1 : 0, 1);
            Check.due("rule 1, not public: " + inside, Modifier.isPublic(inside.getModifiers()) ? 1 : 0, 0);
            for (Method m : inside.getDeclaredMethods()) Check.due("rule 1, a name of the face: " + m, names.contains(m.getName()) ? 1 : 0, 0);
        }
        classes.add(BlindPages.class);
        Check.due("rule 11, classes", Math.max(classes.size(), 12), 12);
        for (Class<?> c : classes) {
            int fields = 0;
            for (Field f : c.getDeclaredFields()) {
                if (!Modifier.isStatic(f.getModifiers())) fields++;
                else Check.due("rule 5, final: " + f, Modifier.isFinal(f.getModifiers()) ? 1 : 0, 1);
            }
            Check.due("rule 11, fields of " + c, Math.max(fields, 20), 20);
            for (Method m : c.getDeclaredMethods()) {
                Check.due("rule 11, parameters of " + m, Math.max(m.getParameterCount(), 7), 7);
                boolean shadows = Modifier.isPrivate(m.getModifiers()) && names.contains(m.getName());
                Check.due("rule 1, a private one with a public name: " + m, shadows ? 1 : 0, 0);
            }
        }
    }

    private static void text(String source) {
        String code = source.replaceAll("(?s)/\\*.*?\\*/", "").replaceAll("//[^\n]*", "").replaceAll("'(\\\\.|[^'])'", "0");
        for (String word : FORBIDDEN) Check.due("rules 3 to 6, " + word, Pattern.compile("\\b" + word + "\\b").matcher(code).find() ? 1 : 0, 0);
        Check.due("rule 2, no lambda", code.contains("->") ? 1 : 0, 0);
        Check.due("rule 2, no method reference", code.contains("::") ? 1 : 0, 0);
        Check.due("rule 10, no joined text", code.contains("\"") ? 1 : 0, 0);
        Matcher library = Pattern.compile("\\b([A-Z]\\w*)\\.(\\w+)").matcher(code);
        Set<String> used = new TreeSet<>();
        while (library.find()) used.add(library.group());
        used.removeAll(Set.of("Math.min", "Math.max", "Long.numberOfLeadingZeros"));
        Check.due("rule 4, the library", used.toString(), "[]");
        lengths(code);
    }

    /** A method's or constructor's lines, from its head to the brace that ends it. */
    private static void lengths(String code) {
        String[] lines = code.split("\n");
        Pattern head = Pattern.compile("^( {4}| {8})(?! )(?!return|if|for|while|switch)[\\w\\[\\]. ]+\\([\\w\\[\\], ]*\\) \\{$");
        int methods = 0;
        for (int i = 0; i < lines.length; i++) {
            Matcher m = head.matcher(lines[i]);
            if (!m.matches()) continue;
            methods++;
            int end = i;
            while (!lines[end].equals(m.group(1) + "}")) end++;
            Check.due("rule 11, lines of " + lines[i].trim(), Math.max(end - i + 1, 60), 60);
        }
        Check.due("methods were found", methods > 60 ? 1 : 0, 1);
    }
}
