import com.sun.source.tree.ArrayAccessTree;
import com.sun.source.tree.BinaryTree;
import com.sun.source.tree.ClassTree;
import com.sun.source.tree.ConditionalExpressionTree;
import com.sun.source.tree.ExpressionTree;
import com.sun.source.tree.ForLoopTree;
import com.sun.source.tree.IdentifierTree;
import com.sun.source.tree.IfTree;
import com.sun.source.tree.LiteralTree;
import com.sun.source.tree.MemberSelectTree;
import com.sun.source.tree.MethodTree;
import com.sun.source.tree.NewArrayTree;
import com.sun.source.tree.NewClassTree;
import com.sun.source.tree.Tree;
import com.sun.source.tree.Tree.Kind;
import com.sun.source.tree.TypeCastTree;
import com.sun.source.tree.VariableTree;
import com.sun.source.util.TreePath;
import java.nio.file.Path;
import java.util.List;
import java.util.Map;
import java.util.Set;
import java.util.TreeSet;
import javax.lang.model.element.Element;
import javax.lang.model.element.ExecutableElement;
import javax.lang.model.element.Modifier;
import javax.lang.model.element.VariableElement;
import javax.lang.model.type.ArrayType;
import javax.lang.model.type.DeclaredType;
import javax.lang.model.type.TypeKind;
import javax.lang.model.type.TypeMirror;

/**
 * The rules of LANGUAGE.md, by the class's syntax tree. Where a rule leaves more than the class needs (doubles, lists,
 * texts, recursion, while), the class is held to what it needs: one that goes further wants another case here.
 */
public final class LanguageTest extends Edges {
    private static final Source SOURCE = new Source(Path.of("src/main/java/BlindPages.java"));
    private static final Set<String> FACE = Set.of("type", "clear", "add", "takeOut", "does", "draw", "deals", "anew", "finds", "way", "looks", "begins",
        "between", "sign", "parts", "page", "fork", "all", "back", "told", "digest");
    private static final Set<String> LIBRARY = Set.of("Math.max(int,int)", "Math.min(int,int)", "Long.numberOfLeadingZeros(long)");
    private static final int MOST_DEEP = 8;

    public static void main(String[] args) {
        runs(LanguageTest.class, args);
    }

    private static void none(String what, List<TreePath> places) {
        for (TreePath p : places) Check.due(what, SOURCE.at(p), "none");
        Check.due(what, places.size(), 0);
    }

    private static void holds(String what, TreePath place, boolean does) {
        Check.due(what + ", " + SOURCE.at(place), does ? 1 : 0, 1);
    }

    private static void atMost(String what, long n, long most) {
        Check.due(what, Math.max(n, most), most);
    }

    private static Set<Modifier> modifiers(TreePath place) {
        return SOURCE.element(place).getModifiers();
    }

    // ---- 1 and 2: the face, the classes inside

    static void rule1_oneFileWithoutAPackage() {
        Check.due("types of the file", SOURCE.unit().getTypeDecls().size(), 1);
        Check.due("imports", SOURCE.unit().getImports().size(), 0);
        Check.due("package", SOURCE.unit().getPackage() == null ? 1 : 0, 1);
    }

    static void rule1_noMemberIsVisibleButTheFace() {
        ClassTree whole = (ClassTree) SOURCE.unit().getTypeDecls().get(0);
        for (TreePath p : SOURCE.of(Kind.METHOD, Kind.VARIABLE)) {
            if (p.getParentPath().getLeaf() != whole) continue;
            String name = SOURCE.element(p).getSimpleName().toString();
            boolean ofTheFace = FACE.contains(name) || Set.of("<init>", "NONE", "BAD", "NO", "FULL").contains(name);
            holds("public or private", p, modifiers(p).contains(ofTheFace ? Modifier.PUBLIC : Modifier.PRIVATE));
        }
    }

    static void rule1_noOtherMethodBearsANameOfTheFace() {
        for (TreePath p : SOURCE.of(Kind.METHOD)) {
            boolean isFace = modifiers(p).contains(Modifier.PUBLIC);
            holds("another name", p, isFace || !FACE.contains(((MethodTree) p.getLeaf()).getName().toString()));
        }
    }

    static void rule2_classesInsideAreStaticMembers() {
        for (TreePath p : SOURCE.classes()) {
            holds("a member", p, Source.isMember(p));
            if (p.getParentPath().getLeaf() == SOURCE.unit()) continue;
            holds("static", p, modifiers(p).contains(Modifier.STATIC));
            holds("private", p, modifiers(p).contains(Modifier.PRIVATE));
        }
    }

    static void rule2_noClassWithoutAName() {
        for (TreePath p : SOURCE.of(Kind.NEW_CLASS)) holds("no body", p, ((NewClassTree) p.getLeaf()).getClassBody() == null);
    }

    static void rule2_noLambdaNoMethodReference() {
        none("lambda, method reference", SOURCE.of(Kind.LAMBDA_EXPRESSION, Kind.MEMBER_REFERENCE));
    }

    // ---- 3 and 4: types, the library

    private static boolean isNumber(TypeMirror t) {
        return t.getKind().isPrimitive() && t.getKind() != TypeKind.DOUBLE && t.getKind() != TypeKind.FLOAT;
    }

    private static boolean isOwn(TypeMirror t) {
        return t.getKind() == TypeKind.DECLARED && Source.isOwn(((DeclaredType) t).asElement());
    }

    private static boolean isTaken(TypeMirror t) {
        if (t.getKind() != TypeKind.ARRAY) return isNumber(t) || isOwn(t) || t.getKind() == TypeKind.VOID;
        TypeMirror of = ((ArrayType) t).getComponentType();
        return isNumber(of) || isOwn(of);
    }

    static void rule3_types() {
        for (TreePath p : SOURCE.of(Kind.VARIABLE)) holds("type", p, isTaken(SOURCE.element(p).asType()));
        for (TreePath p : SOURCE.of(Kind.METHOD)) holds("type", p, isTaken(((ExecutableElement) SOURCE.element(p)).getReturnType()));
        for (TreePath p : SOURCE.of(Kind.NEW_ARRAY, Kind.NEW_CLASS)) holds("type", p, isTaken(SOURCE.type(p)));
    }

    static void rule4_theLibrary() {
        Set<String> used = new TreeSet<>();
        for (TreePath p : SOURCE.libraryCalls()) used.add(Source.name(SOURCE.element(p)));
        used.removeAll(LIBRARY);
        Check.due("library", used.toString(), "[]");
        none("a field of the library", SOURCE.libraryFields());
    }

    // ---- 5 and 6: static state, what is left out

    static void rule5_staticFieldsAreConstants() {
        for (TreePath p : SOURCE.of(Kind.VARIABLE)) {
            if (!modifiers(p).contains(Modifier.STATIC)) continue;
            holds("final", p, modifiers(p).contains(Modifier.FINAL));
            holds("a constant", p, ((VariableElement) SOURCE.element(p)).getConstantValue() != null);
        }
    }

    static void rule5_noBlockOfAClass() {
        List<TreePath> blocks = SOURCE.of(Kind.BLOCK);
        blocks.removeIf(p -> !Source.isBlockOfAClass(p));
        none("block", blocks);
    }

    static void rule6_nothingIsThrownOrCaught() {
        none("left out", SOURCE.of(Kind.THROW, Kind.TRY, Kind.CATCH, Kind.SYNCHRONIZED, Kind.ASSERT, Kind.INSTANCE_OF));
        for (TreePath p : SOURCE.of(Kind.METHOD)) {
            holds("throws nothing", p, ((MethodTree) p.getLeaf()).getThrows().isEmpty());
            holds("modifiers", p, !modifiers(p).contains(Modifier.SYNCHRONIZED) && !modifiers(p).contains(Modifier.NATIVE));
            holds("no method of all objects", p, !Set.of("equals", "hashCode", "toString", "finalize", "clone")
                .contains(((MethodTree) p.getLeaf()).getName().toString()));
        }
    }

    static void rule6_castsAreOfNumbers() {
        for (TreePath p : SOURCE.of(Kind.TYPE_CAST)) holds("cast", p, isNumber(SOURCE.type(p, ((TypeCastTree) p.getLeaf()).getType())));
    }

    static void rule6_onlyNumbersAreCompared() {
        for (TreePath p : SOURCE.of(Kind.EQUAL_TO, Kind.NOT_EQUAL_TO)) {
            BinaryTree b = (BinaryTree) p.getLeaf();
            holds("numbers", p, isNumber(SOURCE.type(p, b.getLeftOperand())) && isNumber(SOURCE.type(p, b.getRightOperand())));
        }
    }

    // ---- 7: nothing that the machine throws

    /** The conditions that are looked at ahead of a place in its method: those around it, and those by which it is left earlier. */
    private static String conditionsOf(TreePath place) {
        StringBuilder all = new StringBuilder();
        TreePath method = Source.methodOf(place);
        for (TreePath p = place; p != method; p = p.getParentPath()) {
            Tree t = p.getLeaf();
            if (t instanceof IfTree i) all.append(i.getCondition()).append(' ');
            if (t instanceof ForLoopTree f) all.append(f.getInitializer()).append(f.getCondition()).append(' ');
            if (t instanceof ConditionalExpressionTree c) all.append(c.getCondition()).append(' ');
            if (t instanceof BinaryTree b && b.getKind() == Kind.CONDITIONAL_AND) all.append(b.getLeftOperand()).append(' ');
            if (t instanceof ArrayAccessTree a) all.append(a.getIndex()).append(' ');
        }
        for (TreePath p : SOURCE.of(Kind.IF)) {
            boolean leaves = ((IfTree) p.getLeaf()).getThenStatement().toString().contains("return");
            if (leaves && Source.methodOf(p).getLeaf() == method.getLeaf()) all.append(((IfTree) p.getLeaf()).getCondition()).append(' ');
        }
        return all.toString();
    }

    private static String nameOf(ExpressionTree array) {
        return array instanceof MemberSelectTree m ? m.getIdentifier().toString() : array.toString();
    }

    /** Against the array's own length, or, where it is made with so many, against the constant. */
    static void rule7_anIndexIsTestedBeforeItIsUsed() {
        for (TreePath p : SOURCE.of(Kind.ARRAY_ACCESS)) {
            ArrayAccessTree a = (ArrayAccessTree) p.getLeaf();
            String conditions = conditionsOf(p);
            boolean isFirst = a.getIndex() instanceof LiteralTree n && n.getValue().equals(0);
            holds("tested", p, isFirst || conditions.contains(nameOf(a.getExpression()) + ".length") || conditions.contains("PAGES)"));
        }
    }

    private static boolean isConstantAbove0(TreePath above, ExpressionTree e) {
        Object value = e instanceof LiteralTree n ? n.getValue() : SOURCE.element(above, e) instanceof VariableElement v ? v.getConstantValue() : null;
        return value instanceof Number n && n.longValue() > 0;
    }

    static void rule7_aDivisorIsTestedBeforeItDivides() {
        none("division into a variable", SOURCE.of(Kind.DIVIDE_ASSIGNMENT, Kind.REMAINDER_ASSIGNMENT));
        for (TreePath p : SOURCE.of(Kind.DIVIDE, Kind.REMAINDER)) {
            ExpressionTree by = ((BinaryTree) p.getLeaf()).getRightOperand();
            boolean tested = by instanceof IdentifierTree && conditionsOf(p).contains(by + " < 1");
            holds("tested", p, tested || isConstantAbove0(p, by));
        }
    }

    static void rule7_noReferenceIsEverNull() {
        none("null", SOURCE.of(Kind.NULL_LITERAL));
        for (TreePath p : SOURCE.of(Kind.VARIABLE)) {
            VariableTree v = (VariableTree) p.getLeaf();
            boolean isField = p.getParentPath().getLeaf() instanceof ClassTree;
            boolean isReference = !SOURCE.element(p).asType().getKind().isPrimitive();
            if (isField && isReference) holds("final, so made by the constructor", p, v.getModifiers().getFlags().contains(Modifier.FINAL));
        }
    }

    // ---- 8 to 10: calls, loops

    static void rule8_noRecursion() {
        Map<String, Set<String>> calls = SOURCE.calls();
        for (String from : calls.keySet()) atMost("calls from " + from + " on come back", Source.depth(calls, from, List.of(), 1000), 1000);
    }

    static void rule9_everyLoopIsACounterAgainstABound() {
        none("other loops", SOURCE.of(Kind.WHILE_LOOP, Kind.DO_WHILE_LOOP, Kind.ENHANCED_FOR_LOOP));
        for (TreePath p : SOURCE.of(Kind.FOR_LOOP)) {
            ForLoopTree f = (ForLoopTree) p.getLeaf();
            boolean counts = f.getUpdate().size() == 1 && f.getUpdate().get(0).toString().matches("\\w+(\\+\\+|--);");
            holds("counts", p, counts);
            String counter = f.getUpdate().get(0).toString().replaceAll("\\W", "");
            holds("against a bound", p, f.getCondition() != null && f.getCondition().toString().matches("(.*\\W)?" + counter + " (<|<=|>|>=) .*"));
        }
    }

    static void rule9_noLoopChangesItsCounterInside() {
        for (TreePath p : SOURCE.of(Kind.FOR_LOOP)) {
            ForLoopTree f = (ForLoopTree) p.getLeaf();
            String counter = f.getUpdate().get(0).toString().replaceAll("\\W", "");
            holds("unchanged", p, !f.getStatement().toString().matches("(?s)(.*\\W)?" + counter + "(\\+\\+|--| [-+*/]?= ).*"));
        }
    }

    static void rule10_noTexts() {
        none("text", SOURCE.of(Kind.STRING_LITERAL));
    }

    // ---- 11 to 13: sizes, what is made

    static void rule11_methodsAreShort() {
        for (TreePath p : SOURCE.of(Kind.METHOD)) {
            atMost("lines, " + SOURCE.at(p), SOURCE.linesOf(p), 60);
            atMost("parameters, " + SOURCE.at(p), ((MethodTree) p.getLeaf()).getParameters().size(), 7);
        }
    }

    static void rule11_callsGoEightDeepAtMost() {
        Map<String, Set<String>> calls = SOURCE.calls();
        for (String from : calls.keySet()) atMost("calls from " + from + " on", Source.depth(calls, from, List.of(), 1000), MOST_DEEP);
        Check.due("the deepest", Source.depth(calls, "BlindPages.digest()", List.of(), 1000), 7);
    }

    static void rule11_classesAndFields() {
        atMost("classes", SOURCE.classes().size(), 12);
        for (TreePath c : SOURCE.classes()) {
            long fields = SOURCE.element(c).getEnclosedElements().stream().filter(e -> e.getKind().isField() && !e.getModifiers().contains(Modifier.STATIC)).count();
            atMost("fields, " + SOURCE.at(c), fields, 20);
        }
    }

    static void rule12_objectsAreMadeWithTheObjectAlone() {
        for (TreePath p : SOURCE.of(Kind.NEW_CLASS, Kind.NEW_ARRAY)) {
            TreePath in = Source.methodOf(p);
            holds("in a constructor or as a field's first value", p, in == null || ((MethodTree) in.getLeaf()).getReturnType() == null);
        }
        for (TreePath p : SOURCE.of(Kind.NEW_ARRAY)) {
            for (ExpressionTree n : ((NewArrayTree) p.getLeaf()).getDimensions()) holds("so many", p, n.toString().matches("[A-Z_]+( \\+ [A-Z_]+)?"));
        }
    }

    /** Constructors call constructors alone, so no method that a class could override. */
    static void rule12_constructorsCallNoMethod() {
        for (TreePath p : SOURCE.of(Kind.METHOD_INVOCATION)) {
            TreePath in = Source.methodOf(p);
            holds("not in a constructor", p, in != null && ((MethodTree) in.getLeaf()).getReturnType() != null);
        }
    }

    /** What knows the clock, files or chance is all of the library. */
    static void rule13_nothingFromOutside() {
        for (TreePath p : SOURCE.libraryCalls()) {
            Element e = SOURCE.element(p);
            holds("of numbers alone", p, Set.of("Math", "Long").contains(Source.owner(e)) && !e.toString().startsWith("random"));
        }
    }
}
