import com.sun.source.tree.AssertTree;
import com.sun.source.tree.BinaryTree;
import com.sun.source.tree.ClassTree;
import com.sun.source.tree.CompilationUnitTree;
import com.sun.source.tree.CompoundAssignmentTree;
import com.sun.source.tree.DoWhileLoopTree;
import com.sun.source.tree.ForLoopTree;
import com.sun.source.tree.InstanceOfTree;
import com.sun.source.tree.LambdaExpressionTree;
import com.sun.source.tree.LiteralTree;
import com.sun.source.tree.MemberReferenceTree;
import com.sun.source.tree.MethodInvocationTree;
import com.sun.source.tree.MethodTree;
import com.sun.source.tree.NewClassTree;
import com.sun.source.tree.SynchronizedTree;
import com.sun.source.tree.ThrowTree;
import com.sun.source.tree.Tree;
import com.sun.source.tree.TryTree;
import com.sun.source.tree.TypeCastTree;
import com.sun.source.tree.VariableTree;
import com.sun.source.tree.WhileLoopTree;
import com.sun.source.util.JavacTask;
import com.sun.source.util.TreePath;
import com.sun.source.util.TreePathScanner;
import com.sun.source.util.Trees;
import java.io.File;
import java.util.ArrayList;
import java.util.HashMap;
import java.util.HashSet;
import java.util.LinkedHashMap;
import java.util.List;
import java.util.Map;
import java.util.Set;
import javax.lang.model.element.Element;
import javax.lang.model.element.ExecutableElement;
import javax.lang.model.element.Modifier;
import javax.lang.model.element.TypeElement;
import javax.lang.model.element.VariableElement;
import javax.lang.model.type.ArrayType;
import javax.lang.model.type.TypeKind;
import javax.lang.model.type.TypeMirror;
import javax.tools.JavaCompiler;
import javax.tools.StandardJavaFileManager;
import javax.tools.ToolProvider;

/** The rules of LANGUAGE.md that the compiler's own tree of the source can tell: types, library, loops, depth of calls. */
public final class LanguageTreeTest extends TreePathScanner<Void, Void> {
    private static final int MOST_DEPTH = 8;
    private static final int MOST_LINES = 60;
    private static final int MOST_PARAMETERS = 7;
    private static final Set<String> NUMBERS_ONLY = Set.of("compare", "max", "min", "abs", "bitCount", "floorDiv",
        "floorMod", "signum", "numberOfTrailingZeros", "numberOfLeadingZeros", "highestOneBit", "lowestOneBit");
    private static final Map<String, Set<String>> LIBRARY = Map.of(
        "java.lang.Object", Set.of("<init>"),
        "java.lang.String", Set.of("length", "charAt", "isEmpty", "equals", "indexOf", "substring", "toCharArray",
            "<init>"),
        "java.lang.StringBuilder", Set.of("<init>", "append", "charAt", "setCharAt", "setLength", "deleteCharAt",
            "reverse", "length", "toString"),
        "java.util.ArrayList", Set.of("<init>", "add", "get", "set", "remove", "size", "isEmpty", "clear"),
        "java.util.List", Set.of("add", "get", "set", "remove", "size", "isEmpty", "clear", "of"),
        "java.lang.Integer", NUMBERS_ONLY, "java.lang.Long", NUMBERS_ONLY, "java.lang.Math", NUMBERS_ONLY,
        "java.lang.System", Set.of("arraycopy"), "java.util.Arrays", Set.of("copyOf", "copyOfRange", "fill"));

    private static int wrong = 0;
    private final Trees trees;
    private final CompilationUnitTree unit;
    private final Map<Element, Set<Element>> calls = new LinkedHashMap<>();
    private Element method;

    private LanguageTreeTest(Trees trees, CompilationUnitTree unit) {
        this.trees = trees;
        this.unit = unit;
    }

    public static void main(String[] args) throws Exception {
        JavaCompiler compiler = ToolProvider.getSystemJavaCompiler();
        StandardJavaFileManager files = compiler.getStandardFileManager(null, null, null);
        JavacTask task = (JavacTask) compiler.getTask(null, files, null, List.of("-proc:none"), null,
            files.getJavaFileObjects(new File(args.length > 0 ? args[0] : "src/main/java/GiftTable.java")));
        CompilationUnitTree unit = task.parse().iterator().next();
        task.analyze();
        LanguageTreeTest test = new LanguageTreeTest(Trees.instance(task), unit);
        test.scan(unit, null);
        test.depths();
        System.out.println(wrong == 0 ? "language by the tree: no rule broken" : "language: " + wrong + " rules broken");
        if (wrong != 0) {
            System.exit(1);
        }
    }

    private long line(Tree tree) {
        return unit.getLineMap().getLineNumber(trees.getSourcePositions().getStartPosition(unit, tree));
    }

    private void check(boolean holds, int rule, Tree tree, String what) {
        if (!holds) {
            wrong++;
            System.out.println("LANGUAGE.md " + rule + ": " + what + ", line " + line(tree));
        }
    }

    private TypeMirror type(Tree tree) {
        return trees.getTypeMirror(new TreePath(getCurrentPath(), tree));
    }

    private static boolean isOwn(Element element) {
        Element e = element;
        while (e != null && !(e instanceof TypeElement && e.getEnclosingElement().getKind().name().equals("PACKAGE"))) {
            e = e.getEnclosingElement();
        }
        return e != null && e.getSimpleName().contentEquals("GiftTable");
    }

    // ---- rule 2, 6: what may not stand at all

    @Override public Void visitLambdaExpression(LambdaExpressionTree t, Void v) {
        check(false, 2, t, "a lambda");
        return super.visitLambdaExpression(t, v);
    }

    @Override public Void visitMemberReference(MemberReferenceTree t, Void v) {
        check(false, 2, t, "a method reference");
        return super.visitMemberReference(t, v);
    }

    @Override public Void visitThrow(ThrowTree t, Void v) {
        check(false, 6, t, "throw");
        return super.visitThrow(t, v);
    }

    @Override public Void visitTry(TryTree t, Void v) {
        check(false, 6, t, "try");
        return super.visitTry(t, v);
    }

    @Override public Void visitSynchronized(SynchronizedTree t, Void v) {
        check(false, 6, t, "synchronized");
        return super.visitSynchronized(t, v);
    }

    @Override public Void visitAssert(AssertTree t, Void v) {
        check(false, 6, t, "assert");
        return super.visitAssert(t, v);
    }

    @Override public Void visitInstanceOf(InstanceOfTree t, Void v) {
        check(isOwn(element(type(t.getType()))), 6, t, "instanceof of another's class");
        return super.visitInstanceOf(t, v);
    }

    @Override public Void visitTypeCast(TypeCastTree t, Void v) {
        TypeMirror to = type(t.getType());
        check(to.getKind().isPrimitive() || isOwn(element(to)), 6, t, "a cast to another's class");
        return super.visitTypeCast(t, v);
    }

    private static Element element(TypeMirror type) {
        return type instanceof javax.lang.model.type.DeclaredType
            ? ((javax.lang.model.type.DeclaredType) type).asElement() : null;
    }

    // ---- rules 1, 2, 3, 5: classes, fields, types

    @Override public Void visitClass(ClassTree t, Void v) {
        Element e = trees.getElement(getCurrentPath());
        boolean outer = e.getEnclosingElement().getKind().name().equals("PACKAGE");
        check(!t.getSimpleName().toString().isEmpty(), 2, t, "an anonymous class");
        check(outer || e.getModifiers().contains(Modifier.STATIC), 2, t, "an inner class that is not static");
        check(outer || getCurrentPath().getParentPath().getLeaf() instanceof ClassTree, 2, t, "a local class");
        int fields = 0;
        for (Tree member : t.getMembers()) {
            check(member.getKind() != Tree.Kind.BLOCK, 5, member, "an initialiser block");
            if (member instanceof VariableTree
                    && !((VariableTree) member).getModifiers().getFlags().contains(Modifier.STATIC)) {
                fields++;
            }
        }
        check(fields <= 20, 11, t, t.getSimpleName() + " has " + fields + " fields");
        return super.visitClass(t, v);
    }

    @Override public Void visitVariable(VariableTree t, Void v) {
        VariableElement e = (VariableElement) trees.getElement(getCurrentPath());
        check(mayBe(e.asType()), 3, t, "the type " + e.asType());
        if (e.getKind().isField() && e.getModifiers().contains(Modifier.STATIC)) {
            boolean constant = e.getConstantValue() != null
                || e.asType() instanceof ArrayType && ((ArrayType) e.asType()).getComponentType().getKind().isPrimitive();
            check(e.getModifiers().contains(Modifier.FINAL) && constant, 5, t, "the static field " + e);
        }
        boolean outer = e.getEnclosingElement().getSimpleName().contentEquals("GiftTable");
        if (e.getKind().isField() && outer && !e.getSimpleName().contentEquals("NONE")) {
            check(e.getModifiers().contains(Modifier.PRIVATE), 1, t, "the field " + e + " can be seen");
        }
        return super.visitVariable(t, v);
    }

    private static boolean mayBe(TypeMirror type) {
        if (type.getKind().isPrimitive()) {
            return true;
        }
        if (type.getKind() == TypeKind.ARRAY) {
            TypeMirror of = ((ArrayType) type).getComponentType();
            if (of.getKind() == TypeKind.ARRAY) {
                TypeMirror cell = ((ArrayType) of).getComponentType();
                return cell.getKind().isPrimitive() && cell.getKind() != TypeKind.BOOLEAN;
            }
            return of.getKind().isPrimitive() || isOwn(element(of));
        }
        String name = element(type) == null ? type.toString() : element(type).toString();
        return isOwn(element(type)) || Set.of("java.lang.String", "java.lang.StringBuilder", "java.lang.Integer",
            "java.util.List", "java.util.ArrayList").contains(name);
    }

    // ---- rules 6, 10: operators and signs

    @Override public Void visitBinary(BinaryTree t, Void v) {
        TypeMirror left = type(t.getLeftOperand());
        TypeMirror right = type(t.getRightOperand());
        switch (t.getKind()) {
            case PLUS:
                check(left.getKind().isPrimitive() && right.getKind().isPrimitive(), 10, t, "texts joined by +");
                break;
            case EQUAL_TO:
            case NOT_EQUAL_TO:
                check(comparable(left) && comparable(right), 6, t, "== of " + left + " and " + right);
                break;
            case AND:
            case OR:
            case XOR:
                check(left.getKind() != TypeKind.BOOLEAN, 10, t, "a mask of boolean");
                break;
            default:
                break;
        }
        return super.visitBinary(t, v);
    }

    private static boolean comparable(TypeMirror type) {
        return type.getKind().isPrimitive() || type.getKind() == TypeKind.NULL || isOwn(element(type));
    }

    @Override public Void visitCompoundAssignment(CompoundAssignmentTree t, Void v) {
        TypeKind kind = type(t.getVariable()).getKind();
        check(kind.isPrimitive() && kind != TypeKind.BOOLEAN, 10, t, "a compound assignment to " + kind);
        return super.visitCompoundAssignment(t, v);
    }

    @Override public Void visitLiteral(LiteralTree t, Void v) {
        String signs = t.getValue() instanceof String || t.getValue() instanceof Character ? t.getValue().toString() : "";
        check(signs.chars().allMatch(c -> c >= 1 && c <= 127), 4, t, "a sign that is not 1 to 127");
        return super.visitLiteral(t, v);
    }

    // ---- rule 9: loops with an end

    private void bounded(Tree loop, Tree condition) {
        String told = condition == null ? "" : condition.toString();
        check(told.contains("<") || told.contains(">"), 9, loop, "no bound in " + told);
    }

    @Override public Void visitWhileLoop(WhileLoopTree t, Void v) {
        bounded(t, t.getCondition());
        return super.visitWhileLoop(t, v);
    }

    @Override public Void visitDoWhileLoop(DoWhileLoopTree t, Void v) {
        bounded(t, t.getCondition());
        return super.visitDoWhileLoop(t, v);
    }

    @Override public Void visitForLoop(ForLoopTree t, Void v) {
        bounded(t, t.getCondition());
        return super.visitForLoop(t, v);
    }

    // ---- rules 4, 8, 11: methods and calls

    @Override public Void visitMethod(MethodTree t, Void v) {
        Element outer = method;
        method = trees.getElement(getCurrentPath());
        calls.computeIfAbsent(method, m -> new HashSet<>());
        check(t.getParameters().size() <= MOST_PARAMETERS, 11, t, t.getName() + " has too many parameters");
        long end = unit.getLineMap().getLineNumber(trees.getSourcePositions().getEndPosition(unit, t));
        check(end - line(t) < MOST_LINES, 11, t, t.getName() + " has " + (end - line(t) + 1) + " lines");
        super.visitMethod(t, v);
        method = outer;
        return null;
    }

    @Override public Void visitMethodInvocation(MethodInvocationTree t, Void v) {
        called(t, (ExecutableElement) trees.getElement(getCurrentPath()));
        return super.visitMethodInvocation(t, v);
    }

    @Override public Void visitNewClass(NewClassTree t, Void v) {
        called(t, (ExecutableElement) trees.getElement(getCurrentPath()));
        return super.visitNewClass(t, v);
    }

    private void called(Tree t, ExecutableElement callee) {
        if (isOwn(callee)) {
            if (method != null) {
                calls.get(method).add(callee);
            }
            return;
        }
        String owner = callee.getEnclosingElement().toString();
        String name = callee.getSimpleName().toString();
        boolean clone = owner.equals("Array") && name.equals("clone");
        check(clone || LIBRARY.getOrDefault(owner, Set.of()).contains(name), 4, t, owner + "." + name);
        if (owner.equals("java.util.Arrays")) {
            TypeMirror of = ((ArrayType) callee.getParameters().get(0).asType()).getComponentType();
            check(of.getKind().isPrimitive() && of.getKind() != TypeKind.BOOLEAN, 4, t, "Arrays over " + of);
        }
        if (owner.equals("java.lang.Math")) {
            TypeKind kind = callee.getReturnType().getKind();
            check(kind == TypeKind.INT || kind == TypeKind.LONG, 4, t, "Math over " + kind);
        }
    }

    /** Calls that are no recursion go at most so deep; what calls itself, by others too, is private. */
    private void depths() {
        for (Element from : calls.keySet()) {
            List<Element> way = deepest(from, new HashMap<>());
            check(way.size() <= MOST_DEPTH, 11, trees.getTree(from), way.size() + " calls deep: " + way);
            if (reaches(from, from)) {
                check(from.getModifiers().contains(Modifier.PRIVATE), 8, trees.getTree(from), from + " is not private");
            }
        }
        check(calls.size() > 100, 11, unit, "only " + calls.size() + " methods were looked at");
    }

    private List<Element> deepest(Element from, Map<Element, List<Element>> known) {
        if (known.containsKey(from)) {
            return known.get(from);
        }
        List<Element> best = List.of();
        for (Element to : calls.getOrDefault(from, Set.of())) {
            if (!reaches(to, from)) {
                List<Element> way = deepest(to, known);
                best = way.size() > best.size() ? way : best;
            }
        }
        List<Element> all = new ArrayList<>(List.of(from));
        all.addAll(best);
        known.put(from, all);
        return all;
    }

    private boolean reaches(Element from, Element to) {
        Set<Element> seen = new HashSet<>();
        List<Element> open = new ArrayList<>(calls.getOrDefault(from, Set.of()));
        while (!open.isEmpty()) {
            Element next = open.remove(open.size() - 1);
            if (next == to) {
                return true;
            }
            if (seen.add(next)) {
                open.addAll(calls.getOrDefault(next, Set.of()));
            }
        }
        return false;
    }
}
