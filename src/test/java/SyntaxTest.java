import com.sun.source.tree.AssertTree;
import com.sun.source.tree.BinaryTree;
import com.sun.source.tree.BlockTree;
import com.sun.source.tree.ClassTree;
import com.sun.source.tree.CompilationUnitTree;
import com.sun.source.tree.CompoundAssignmentTree;
import com.sun.source.tree.ExpressionTree;
import com.sun.source.tree.LambdaExpressionTree;
import com.sun.source.tree.MemberReferenceTree;
import com.sun.source.tree.MethodInvocationTree;
import com.sun.source.tree.MethodTree;
import com.sun.source.tree.NewClassTree;
import com.sun.source.tree.SynchronizedTree;
import com.sun.source.tree.ThrowTree;
import com.sun.source.tree.Tree;
import com.sun.source.tree.TryTree;
import com.sun.source.tree.TypeCastTree;
import com.sun.source.tree.VariableTree;
import com.sun.source.util.JavacTask;
import com.sun.source.util.TreePath;
import com.sun.source.util.TreePathScanner;
import com.sun.source.util.Trees;
import java.io.IOException;
import java.nio.file.Path;
import java.util.ArrayList;
import java.util.LinkedHashMap;
import java.util.LinkedHashSet;
import java.util.List;
import java.util.Map;
import java.util.Set;
import javax.lang.model.element.Element;
import javax.lang.model.element.ElementKind;
import javax.lang.model.element.ExecutableElement;
import javax.lang.model.element.Modifier;
import javax.lang.model.element.TypeElement;
import javax.lang.model.element.VariableElement;
import javax.lang.model.type.ArrayType;
import javax.lang.model.type.DeclaredType;
import javax.lang.model.type.TypeKind;
import javax.lang.model.type.TypeMirror;
import javax.tools.JavaCompiler;
import javax.tools.StandardJavaFileManager;
import javax.tools.ToolProvider;

/** The rules of LANGUAGE.md that the compiler's own tree of the program shows, each under its number. */
public final class SyntaxTest extends TreePathScanner<Void, Void> {
    private static final Due due = new Due("SyntaxTest");
    private static final Path PROGRAM = Path.of("src/main/java/QuotedLetters.java");
    private static final int MOST_LINES_OF_METHOD = 60;
    private static final int MOST_CALLS_DEEP = 8;
    /** What the program uses now; rules 3 and 4 leave more, which may be written here when it is needed. */
    private static final Set<String> LIBRARY = Set.of("java.lang.String.length", "java.lang.String.charAt",
        "java.lang.System.arraycopy", "java.util.Arrays.fill", "java.lang.Math.max", "java.lang.Math.min",
        "java.lang.Object.<init>");
    private static final Set<TypeKind> NUMBERS = Set.of(TypeKind.INT, TypeKind.LONG, TypeKind.BOOLEAN);

    private final Trees trees;
    private final CompilationUnitTree unit;
    private final Map<Element, Set<Element>> calls = new LinkedHashMap<>();
    private int classes;

    private SyntaxTest(Trees itsTrees, CompilationUnitTree itsUnit) {
        trees = itsTrees;
        unit = itsUnit;
    }

    public static void main(String[] args) throws IOException {
        JavaCompiler compiler = ToolProvider.getSystemJavaCompiler();
        try (StandardJavaFileManager files = compiler.getStandardFileManager(null, null, null)) {
            JavacTask task = (JavacTask) compiler.getTask(null, files, null, List.of("-proc:none"), null,
                files.getJavaFileObjects(PROGRAM));
            CompilationUnitTree unit = task.parse().iterator().next();
            task.analyze();
            SyntaxTest test = new SyntaxTest(Trees.instance(task), unit);
            test.scan(unit, null);
            test.depths();
        }
        due.end();
    }

    private void rule(int number, Tree tree, String what, boolean holds) {
        due.sentence("LANGUAGE.md, rule " + number);
        long line = unit.getLineMap().getLineNumber(trees.getSourcePositions().getStartPosition(unit, tree));
        due.holds("line " + line + ": " + what, holds);
    }

    private TypeMirror typeOf(Tree tree) {
        return trees.getTypeMirror(new TreePath(getCurrentPath(), tree));
    }

    private static TypeElement outermost(Element element) {
        Element at = element;
        while (at.getEnclosingElement() instanceof TypeElement outer) {
            at = outer;
        }
        return (TypeElement) at;
    }

    private static boolean isOwn(Element element) {
        return outermost(element).getSimpleName().contentEquals("QuotedLetters");
    }

    // ---- what stands in the tree

    @Override
    public Void visitCompilationUnit(CompilationUnitTree tree, Void none) {
        rule(1, tree, "no package", tree.getPackage() == null);
        rule(1, tree, "one class alone", tree.getTypeDecls().size() == 1);
        return super.visitCompilationUnit(tree, none);
    }

    @Override
    public Void visitClass(ClassTree tree, Void none) {
        classes++;
        Element element = trees.getElement(getCurrentPath());
        ElementKind around = element.getEnclosingElement().getKind();
        boolean isNested = around == ElementKind.CLASS;
        rule(2, tree, "a nested class is static", !isNested || element.getModifiers().contains(Modifier.STATIC));
        rule(2, tree, "no local class", isNested || around == ElementKind.PACKAGE);
        rule(2, tree, "it stands under no other class", tree.getExtendsClause() == null);
        for (Tree member : tree.getMembers()) {
            rule(5, member, "no initialiser block", !(member instanceof BlockTree));
        }
        rule(11, tree, "at most twelve classes", classes <= 12);
        return super.visitClass(tree, none);
    }

    @Override
    public Void visitMethod(MethodTree tree, Void none) {
        long first = lineOf(trees.getSourcePositions().getStartPosition(unit, tree));
        long last = lineOf(trees.getSourcePositions().getEndPosition(unit, tree));
        rule(11, tree, tree.getName() + " is short", last - first < MOST_LINES_OF_METHOD);
        rule(11, tree, tree.getName() + " takes at most seven", tree.getParameters().size() <= 7);
        rule(6, tree, tree.getName() + " tells of no throws", tree.getThrows().isEmpty());
        rule(6, tree, tree.getName() + " is no equals, hashCode or toString",
            !Set.of("equals", "hashCode", "toString").contains(tree.getName().toString()));
        calls.putIfAbsent(trees.getElement(getCurrentPath()), new LinkedHashSet<>());
        return super.visitMethod(tree, none);
    }

    private long lineOf(long position) {
        return position < 0 ? 0 : unit.getLineMap().getLineNumber(position);
    }

    @Override
    public Void visitVariable(VariableTree tree, Void none) {
        VariableElement element = (VariableElement) trees.getElement(getCurrentPath());
        rule(3, tree, tree.getName() + " is of a type that may be", mayBe(element.asType()));
        if (element.getModifiers().contains(Modifier.STATIC)) {
            boolean isArray = element.asType().getKind() == TypeKind.ARRAY;
            boolean isWritten = isArray
                ? tree.getInitializer() != null && tree.getInitializer().getKind() == Tree.Kind.NEW_ARRAY
                : element.getConstantValue() != null;
            rule(5, tree, tree.getName() + " is final and written out",
                element.getModifiers().contains(Modifier.FINAL) && isWritten);
        }
        return super.visitVariable(tree, none);
    }

    private static boolean mayBe(TypeMirror type) {
        if (type instanceof ArrayType array) {
            return array.getComponentType().getKind() != TypeKind.ARRAY && mayBe(array.getComponentType());
        }
        if (type instanceof DeclaredType declared) {
            return type.toString().equals("java.lang.String") || isOwn(declared.asElement());
        }
        return NUMBERS.contains(type.getKind());
    }

    @Override
    public Void visitMethodInvocation(MethodInvocationTree tree, Void none) {
        noteCall(tree, (ExecutableElement) trees.getElement(getCurrentPath()));
        return super.visitMethodInvocation(tree, none);
    }

    @Override
    public Void visitNewClass(NewClassTree tree, Void none) {
        rule(2, tree, "no class without a name", tree.getClassBody() == null);
        noteCall(tree, (ExecutableElement) trees.getElement(getCurrentPath()));
        return super.visitNewClass(tree, none);
    }

    private void noteCall(Tree tree, ExecutableElement called) {
        if (!isOwn(called)) {
            String name = called.getEnclosingElement() + "." + called.getSimpleName();
            rule(4, tree, name + " may be called", LIBRARY.contains(name));
            return;
        }
        for (TreePath at = getCurrentPath(); at != null; at = at.getParentPath()) {
            if (at.getLeaf() instanceof MethodTree) {
                calls.computeIfAbsent(trees.getElement(at), key -> new LinkedHashSet<>()).add(called);
                return;
            }
        }
    }

    @Override
    public Void visitBinary(BinaryTree tree, Void none) {
        boolean isText = typeOf(tree).toString().equals("java.lang.String");
        rule(10, tree, "texts are not joined by +", !isText);
        boolean isSame = tree.getKind() == Tree.Kind.EQUAL_TO || tree.getKind() == Tree.Kind.NOT_EQUAL_TO;
        boolean ofNumbers = typeOf(tree.getLeftOperand()).getKind().isPrimitive();
        rule(6, tree, "== stands between numbers", !isSame || ofNumbers);
        divides(tree, tree.getRightOperand());
        return super.visitBinary(tree, none);
    }

    @Override
    public Void visitCompoundAssignment(CompoundAssignmentTree tree, Void none) {
        divides(tree, tree.getExpression());
        return super.visitCompoundAssignment(tree, none);
    }

    /** A constant divisor that is not 0 needs no look. */
    private void divides(Tree tree, ExpressionTree divisor) {
        String kind = tree.getKind().toString();
        if (kind.startsWith("DIVIDE") || kind.startsWith("REMAINDER")) {
            Element element = trees.getElement(new TreePath(getCurrentPath(), divisor));
            boolean isConstant = element instanceof VariableElement constant && constant.getConstantValue() != null
                && ((Number) constant.getConstantValue()).longValue() != 0;
            rule(7, tree, "the divisor is a constant, and not 0", isConstant);
        }
    }

    @Override
    public Void visitTypeCast(TypeCastTree tree, Void none) {
        rule(6, tree, "a cast is among numbers", typeOf(tree.getType()).getKind().isPrimitive());
        return super.visitTypeCast(tree, none);
    }

    // ---- what may not stand at all

    private Void never(int number, Tree tree) {
        rule(number, tree, tree.getKind() + " may not stand", false);
        return null;
    }

    @Override
    public Void visitThrow(ThrowTree tree, Void none) {
        return never(6, tree);
    }

    @Override
    public Void visitTry(TryTree tree, Void none) {
        return never(6, tree);
    }

    @Override
    public Void visitSynchronized(SynchronizedTree tree, Void none) {
        return never(6, tree);
    }

    @Override
    public Void visitAssert(AssertTree tree, Void none) {
        return never(6, tree);
    }

    @Override
    public Void visitLambdaExpression(LambdaExpressionTree tree, Void none) {
        return never(2, tree);
    }

    @Override
    public Void visitMemberReference(MemberReferenceTree tree, Void none) {
        return never(2, tree);
    }

    // ---- how deep calls go

    private void depths() {
        due.sentence("LANGUAGE.md, rules 8 and 11");
        for (Element method : calls.keySet()) {
            List<Element> way = longestWay(method, new ArrayList<>());
            due.holds("calls go at most eight deep: " + way, way.size() <= MOST_CALLS_DEEP);
        }
    }

    private List<Element> longestWay(Element method, List<Element> open) {
        if (open.contains(method)) {
            due.holds(method + " does not call itself: " + open, false);
            return List.of();
        }
        open.add(method);
        List<Element> longest = List.of();
        for (Element called : calls.getOrDefault(method, Set.of())) {
            List<Element> way = longestWay(called, open);
            if (way.size() > longest.size()) {
                longest = way;
            }
        }
        open.remove(open.size() - 1);
        List<Element> all = new ArrayList<>(List.of(method));
        all.addAll(longest);
        return all;
    }
}
