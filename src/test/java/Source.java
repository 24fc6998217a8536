import com.sun.source.tree.BlockTree;
import com.sun.source.tree.ClassTree;
import com.sun.source.tree.CompilationUnitTree;
import com.sun.source.tree.IdentifierTree;
import com.sun.source.tree.MemberSelectTree;
import com.sun.source.tree.MethodTree;
import com.sun.source.tree.Tree;
import com.sun.source.util.JavacTask;
import com.sun.source.util.TreePath;
import com.sun.source.util.TreePathScanner;
import com.sun.source.util.Trees;
import java.io.IOException;
import java.io.UncheckedIOException;
import java.nio.file.Files;
import java.nio.file.Path;
import java.util.ArrayList;
import java.util.LinkedHashMap;
import java.util.LinkedHashSet;
import java.util.List;
import java.util.Map;
import java.util.Set;
import java.util.stream.Collectors;
import javax.lang.model.element.Element;
import javax.lang.model.element.ElementKind;
import javax.lang.model.element.TypeElement;
import javax.lang.model.type.TypeMirror;
import javax.tools.JavaCompiler;
import javax.tools.StandardJavaFileManager;
import javax.tools.ToolProvider;

/** A class's text as javac reads it: its syntax tree, each place with the way that leads to it, and what names stand for. */
final class Source {
    final List<String> lines;
    private final CompilationUnitTree unit;
    private final Trees trees;
    private final List<TreePath> places = new ArrayList<>();

    Source(Path file) {
        try {
            lines = Files.readAllLines(file);
            JavaCompiler javac = ToolProvider.getSystemJavaCompiler();
            StandardJavaFileManager files = javac.getStandardFileManager(null, null, null);
            JavacTask task = (JavacTask) javac.getTask(null, files, null, List.of("-proc:none"), null, files.getJavaFileObjects(file));
            unit = task.parse().iterator().next();
            task.analyze();
            trees = Trees.instance(task);
        } catch (IOException e) {
            throw new UncheckedIOException(e);
        }
        new TreePathScanner<Void, Void>() {
            @Override
            public Void scan(Tree tree, Void with) {
                if (tree != null && isWritten(tree)) places.add(new TreePath(getCurrentPath(), tree));
                return super.scan(tree, with);
            }
        }.scan(unit, null);
    }

    /** What javac itself puts in, such as super(), ends where it begins or nowhere. */
    private boolean isWritten(Tree tree) {
        return trees.getSourcePositions().getEndPosition(unit, tree) > trees.getSourcePositions().getStartPosition(unit, tree);
    }

    List<TreePath> of(Tree.Kind... kinds) {
        Set<Tree.Kind> wanted = Set.of(kinds);
        return places.stream().filter(p -> wanted.contains(p.getLeaf().getKind())).collect(Collectors.toList());
    }

    List<TreePath> classes() {
        return of(Tree.Kind.CLASS, Tree.Kind.ENUM, Tree.Kind.RECORD, Tree.Kind.INTERFACE);
    }

    CompilationUnitTree unit() {
        return unit;
    }

    /** The line that a place begins in, 1 on, with what stands there. */
    String at(TreePath place) {
        return "line " + lineOf(trees.getSourcePositions().getStartPosition(unit, place.getLeaf())) + ": " + place.getLeaf().toString().split("\n")[0];
    }

    private long lineOf(long position) {
        return unit.getLineMap().getLineNumber(position);
    }

    long linesOf(TreePath place) {
        long start = trees.getSourcePositions().getStartPosition(unit, place.getLeaf());
        return lineOf(trees.getSourcePositions().getEndPosition(unit, place.getLeaf())) - lineOf(start) + 1;
    }

    Element element(TreePath place) {
        return trees.getElement(place);
    }

    TypeMirror type(TreePath place) {
        return trees.getTypeMirror(place);
    }

    TypeMirror type(TreePath above, Tree tree) {
        return trees.getTypeMirror(new TreePath(above, tree));
    }

    Element element(TreePath above, Tree tree) {
        return trees.getElement(new TreePath(above, tree));
    }

    static boolean isOwn(Element e) {
        return e.toString().equals("BlindPages") || e.getEnclosingElement() != null && isOwn(e.getEnclosingElement());
    }

    /** The class that an element is a member of, as it is named in the text. */
    static String owner(Element e) {
        return e.getEnclosingElement() instanceof TypeElement t ? t.getSimpleName().toString() : "";
    }

    /** The method or constructor that a place is in; null: in none. */
    static TreePath methodOf(TreePath place) {
        for (TreePath p = place; p != null; p = p.getParentPath()) if (p.getLeaf() instanceof MethodTree) return p;
        return null;
    }

    /** Whether a class is a member of another one or of the file, not of a block. */
    static boolean isMember(TreePath place) {
        Tree above = place.getParentPath().getLeaf();
        return above instanceof ClassTree || above instanceof CompilationUnitTree;
    }

    static boolean isBlockOfAClass(TreePath place) {
        return place.getLeaf() instanceof BlockTree && place.getParentPath().getLeaf() instanceof ClassTree;
    }

    // ---- calls

    /** Of each method and constructor of the class's own those, and those of the library, that it calls. */
    Map<String, Set<String>> calls() {
        Map<String, Set<String>> calls = new LinkedHashMap<>();
        for (TreePath m : of(Tree.Kind.METHOD)) calls.put(name(element(m)), new LinkedHashSet<>());
        for (TreePath call : of(Tree.Kind.METHOD_INVOCATION, Tree.Kind.NEW_CLASS)) {
            String called = name(element(call));
            TreePath in = methodOf(call);
            if (in != null) calls.get(name(element(in))).add(called);
            else for (String made : constructorsOf(call)) calls.computeIfAbsent(made, x -> new LinkedHashSet<>()).add(called);
        }
        return calls;
    }

    /** A field's first value is made by each of the constructors. */
    private List<String> constructorsOf(TreePath place) {
        TreePath p = place;
        while (!(p.getLeaf() instanceof ClassTree)) p = p.getParentPath();
        return element(p).getEnclosedElements().stream().filter(e -> e.getKind() == ElementKind.CONSTRUCTOR).map(Source::name).collect(Collectors.toList());
    }

    static String name(Element e) {
        return owner(e) + "." + e;
    }

    /** The places that call what is not the class's own. */
    List<TreePath> libraryCalls() {
        return of(Tree.Kind.METHOD_INVOCATION, Tree.Kind.NEW_CLASS).stream().filter(p -> !isOwn(element(p))).collect(Collectors.toList());
    }

    /** The fields of the library that are used, but for an array's length. */
    List<TreePath> libraryFields() {
        return of(Tree.Kind.MEMBER_SELECT, Tree.Kind.IDENTIFIER).stream().filter(this::isLibraryField).collect(Collectors.toList());
    }

    private boolean isLibraryField(TreePath place) {
        Element e = element(place);
        if (e == null || e.getKind() != ElementKind.FIELD || isOwn(e)) return false;
        boolean isThis = place.getLeaf() instanceof IdentifierTree i && i.getName().contentEquals("this");
        boolean isLength = place.getLeaf() instanceof MemberSelectTree m && m.getIdentifier().contentEquals("length");
        return !isThis && !isLength;
    }

    /** The longest chain of calls from a method on, itself counted; more than the bound if it comes back to itself. */
    static int depth(Map<String, Set<String>> calls, String from, List<String> open, int bound) {
        if (open.contains(from)) return bound + 1;
        List<String> now = new ArrayList<>(open);
        now.add(from);
        int deepest = 0;
        for (String next : calls.getOrDefault(from, Set.of())) deepest = Math.max(deepest, depth(calls, next, now, bound));
        return deepest + 1;
    }
}
