import com.sun.source.tree.AssertTree;
import com.sun.source.tree.BinaryTree;
import com.sun.source.tree.ClassTree;
import com.sun.source.tree.CompilationUnitTree;
import com.sun.source.tree.DoWhileLoopTree;
import com.sun.source.tree.ExpressionTree;
import com.sun.source.tree.ForLoopTree;
import com.sun.source.tree.ImportTree;
import com.sun.source.tree.LambdaExpressionTree;
import com.sun.source.tree.LiteralTree;
import com.sun.source.tree.MemberReferenceTree;
import com.sun.source.tree.MethodInvocationTree;
import com.sun.source.tree.MethodTree;
import com.sun.source.tree.NewClassTree;
import com.sun.source.tree.ParenthesizedTree;
import com.sun.source.tree.SynchronizedTree;
import com.sun.source.tree.ThrowTree;
import com.sun.source.tree.Tree;
import com.sun.source.tree.TryTree;
import com.sun.source.tree.VariableTree;
import com.sun.source.tree.WhileLoopTree;
import com.sun.source.util.JavacTask;
import com.sun.source.util.TreePath;
import com.sun.source.util.TreePathScanner;
import com.sun.source.util.Trees;
import java.nio.file.Path;
import java.util.ArrayList;
import java.util.HashMap;
import java.util.HashSet;
import java.util.LinkedHashMap;
import java.util.List;
import java.util.Map;
import java.util.Set;
import javax.lang.model.element.Element;
import javax.lang.model.element.ElementKind;
import javax.lang.model.element.ExecutableElement;
import javax.lang.model.element.Modifier;
import javax.lang.model.element.TypeElement;
import javax.lang.model.type.ArrayType;
import javax.lang.model.type.DeclaredType;
import javax.lang.model.type.TypeKind;
import javax.lang.model.type.TypeMirror;
import javax.tools.JavaCompiler;
import javax.tools.StandardJavaFileManager;
import javax.tools.ToolProvider;

// The rules of LANGUAGE.md that need the compiler's reading of the file. Narrower than they are where the class needs
// no more: it throws and catches nothing, as the document asks for no exception, and it imports nothing.
public final class SourceTest extends TreePathScanner<Void, Void> {
    private static final int MOST_PARAMETERS = 7, MOST_LINES = 60, MOST_DEEP = 8, MOST_CLASSES = 12, MOST_FIELDS = 20;
    // Of rule 4's list; who uses more of it adds it here.
    private static final Set<String> LIBRARY = Set.of("java.lang.Object.Object()", "java.lang.String.length()",
            "java.lang.String.charAt(int)", "java.lang.Math.min(int,int)", "java.lang.Math.max(int,int)");
    private static final Set<TypeKind> STATIC_KINDS = Set.of(TypeKind.INT, TypeKind.LONG, TypeKind.BOOLEAN, TypeKind.CHAR);

    private final Trees trees;
    private final CompilationUnitTree unit;
    private final Map<String, Set<String>> calls = new LinkedHashMap<>();
    private final Map<String, Integer> depths = new HashMap<>();
    private final Set<String> open = new HashSet<>();
    private String method = "";
    private int classes = 0;
    private int wrong = 0;

    private SourceTest(Trees trees, CompilationUnitTree unit) {
        this.trees = trees;
        this.unit = unit;
    }

    private void expect(boolean holds, String rule, Tree at, String what) {
        if (holds) return;
        wrong++;
        System.out.println("line " + line(trees.getSourcePositions().getStartPosition(unit, at)) + ", rule " + rule + ": " + what);
    }

    private long line(long position) {
        return unit.getLineMap().getLineNumber(position);
    }

    private Element element(Tree tree) {
        return trees.getElement(new TreePath(getCurrentPath(), tree));
    }

    private TypeMirror type(Tree tree) {
        return trees.getTypeMirror(new TreePath(getCurrentPath(), tree));
    }

    private static boolean isOwn(Element element) {
        return name(element).startsWith("TapeHouse");
    }

    private static String name(Element type) {
        return ((TypeElement) type).getQualifiedName().toString();
    }

    // ---- rules 1 to 5, 11: classes, fields, types

    @Override
    public Void visitImport(ImportTree tree, Void none) {
        expect(false, "4", tree, "an import");
        return null;
    }

    @Override
    public Void visitClass(ClassTree tree, Void none) {
        classes++;
        Element element = trees.getElement(getCurrentPath());
        expect(element.getEnclosingElement().getKind() != ElementKind.METHOD && !tree.getSimpleName().isEmpty(), "2", tree, "a class within a method");
        int fields = 0;
        for (Element member : element.getEnclosedElements()) {
            boolean isField = member.getKind() == ElementKind.FIELD;
            if (isField && !member.getModifiers().contains(Modifier.STATIC)) fields++;
            if (isField && member.getModifiers().contains(Modifier.STATIC)) {
                boolean isConstant = member.getModifiers().contains(Modifier.FINAL) && STATIC_KINDS.contains(member.asType().getKind());
                expect(isConstant, "5", tree, member + " is no constant");
            }
        }
        expect(fields <= MOST_FIELDS, "11", tree, fields + " fields");
        String outer = method;
        String initialisers = name(element) + ".<fields>";
        method = initialisers;
        calls.put(method, new HashSet<>());
        super.visitClass(tree, none);
        method = outer;
        // What fields are made with is called by each constructor.
        String constructor = name(element) + "." + tree.getSimpleName() + "(";
        for (String name : calls.keySet()) {
            if (name.startsWith(constructor)) calls.get(name).addAll(calls.get(initialisers));
        }
        return null;
    }

    @Override
    public Void visitVariable(VariableTree tree, Void none) {
        TypeMirror type = trees.getTypeMirror(getCurrentPath());
        expect(isAllowed(type), "3", tree, "the type " + type);
        return super.visitVariable(tree, none);
    }

    private static boolean isAllowed(TypeMirror type) {
        if (!(type instanceof ArrayType)) return isAllowedAlone(type);
        TypeMirror of = ((ArrayType) type).getComponentType();
        if (!(of instanceof ArrayType)) return isAllowedAlone(of);
        TypeKind kind = ((ArrayType) of).getComponentType().getKind();
        return kind.isPrimitive() && kind != TypeKind.BOOLEAN;
    }

    private static boolean isAllowedAlone(TypeMirror type) {
        if (type.getKind().isPrimitive()) return true;
        if (!(type instanceof DeclaredType)) return false;
        Element of = ((DeclaredType) type).asElement();
        return isOwn(of) || name(of).equals("java.lang.String");
    }

    // ---- rules 4, 8, 11: methods and what they call

    @Override
    public Void visitMethod(MethodTree tree, Void none) {
        ExecutableElement element = (ExecutableElement) trees.getElement(getCurrentPath());
        long begin = trees.getSourcePositions().getStartPosition(unit, tree);
        long end = trees.getSourcePositions().getEndPosition(unit, tree);
        // A constructor that the compiler adds has no end in the file.
        long lines = end < 0 ? 0 : line(end) - line(begin) + 1;
        expect(lines <= MOST_LINES, "11", tree, element + " has " + lines + " lines");
        expect(tree.getParameters().size() <= MOST_PARAMETERS, "11", tree, element + " has too many parameters");
        String outer = method;
        method = full(element);
        calls.put(method, new HashSet<>());
        super.visitMethod(tree, none);
        method = outer;
        return null;
    }

    private static String full(ExecutableElement element) {
        return name(element.getEnclosingElement()) + "." + element;
    }

    private void called(ExecutableElement callee, Tree at) {
        boolean isKnown = isOwn(callee.getEnclosingElement()) || LIBRARY.contains(full(callee));
        expect(isKnown, "4", at, "the library's " + full(callee));
        calls.get(method).add(full(callee));
    }

    @Override
    public Void visitMethodInvocation(MethodInvocationTree tree, Void none) {
        called((ExecutableElement) element(tree.getMethodSelect()), tree);
        return super.visitMethodInvocation(tree, none);
    }

    @Override
    public Void visitNewClass(NewClassTree tree, Void none) {
        called((ExecutableElement) trees.getElement(getCurrentPath()), tree);
        return super.visitNewClass(tree, none);
    }

    // How many calls stand open at once, this one and Object's constructor with them; one that calls itself is told.
    private int depth(String name) {
        if (depths.containsKey(name)) return depths.get(name);
        if (!open.add(name)) {
            wrong++;
            System.out.println("rule 8: " + name + " calls itself");
            return 1;
        }
        int deepest = 0;
        for (String callee : calls.getOrDefault(name, Set.of())) deepest = Math.max(deepest, depth(callee));
        open.remove(name);
        depths.put(name, deepest + 1);
        return deepest + 1;
    }

    private void lookAtDepths() {
        for (String name : new ArrayList<>(calls.keySet())) {
            if (depth(name) > MOST_DEEP) {
                wrong++;
                System.out.println("rule 11: " + name + " goes " + depth(name) + " calls deep");
            }
        }
    }

    // ---- rules 2, 3, 6, 9, 10: statements and expressions

    @Override
    public Void visitLambdaExpression(LambdaExpressionTree tree, Void none) {
        expect(false, "2", tree, "a lambda");
        return super.visitLambdaExpression(tree, none);
    }

    @Override
    public Void visitMemberReference(MemberReferenceTree tree, Void none) {
        expect(false, "2", tree, "a method reference");
        return super.visitMemberReference(tree, none);
    }

    @Override
    public Void visitTry(TryTree tree, Void none) {
        expect(false, "6", tree, "a try");
        return super.visitTry(tree, none);
    }

    @Override
    public Void visitThrow(ThrowTree tree, Void none) {
        expect(false, "6", tree, "a throw");
        return super.visitThrow(tree, none);
    }

    @Override
    public Void visitAssert(AssertTree tree, Void none) {
        expect(false, "6", tree, "an assert");
        return super.visitAssert(tree, none);
    }

    @Override
    public Void visitSynchronized(SynchronizedTree tree, Void none) {
        expect(false, "6", tree, "a synchronized");
        return super.visitSynchronized(tree, none);
    }

    private void endsSomewhere(ExpressionTree condition, Tree loop) {
        ExpressionTree bare = condition;
        while (bare instanceof ParenthesizedTree) bare = ((ParenthesizedTree) bare).getExpression();
        expect(bare != null && !(bare instanceof LiteralTree), "9", loop, "a loop without an end");
    }

    @Override
    public Void visitWhileLoop(WhileLoopTree tree, Void none) {
        endsSomewhere(tree.getCondition(), tree);
        return super.visitWhileLoop(tree, none);
    }

    @Override
    public Void visitDoWhileLoop(DoWhileLoopTree tree, Void none) {
        endsSomewhere(tree.getCondition(), tree);
        return super.visitDoWhileLoop(tree, none);
    }

    @Override
    public Void visitForLoop(ForLoopTree tree, Void none) {
        endsSomewhere(tree.getCondition(), tree);
        return super.visitForLoop(tree, none);
    }

    @Override
    public Void visitBinary(BinaryTree tree, Void none) {
        TypeMirror result = trees.getTypeMirror(getCurrentPath());
        boolean isFloating = result.getKind() == TypeKind.FLOAT || result.getKind() == TypeKind.DOUBLE;
        expect(result.getKind().isPrimitive(), "10", tree, "texts joined by +");
        expect(!isFloating || tree.getKind() != Tree.Kind.REMAINDER, "3", tree, "a remainder of floats");
        boolean isRest = tree.getKind() == Tree.Kind.REMAINDER || tree.getKind() == Tree.Kind.DIVIDE;
        TypeMirror divisor = type(tree.getRightOperand());
        boolean isWhole = divisor.getKind() != TypeKind.FLOAT && divisor.getKind() != TypeKind.DOUBLE;
        if (isRest && isWhole) {
            Element by = element(tree.getRightOperand());
            boolean isConstant = by != null && by.getModifiers().contains(Modifier.STATIC) && by.getModifiers().contains(Modifier.FINAL);
            expect(isConstant || tree.getRightOperand() instanceof LiteralTree, "7", tree, "a divisor that is no constant");
        }
        return super.visitBinary(tree, none);
    }

    public static void main(String[] args) throws Exception {
        Path file = Path.of(args.length > 0 ? args[0] : "src/main/java/TapeHouse.java");
        JavaCompiler compiler = ToolProvider.getSystemJavaCompiler();
        try (StandardJavaFileManager files = compiler.getStandardFileManager(null, null, null)) {
            JavacTask task = (JavacTask) compiler.getTask(null, files, null, List.of("-proc:none"), null, files.getJavaFileObjects(file));
            CompilationUnitTree unit = task.parse().iterator().next();
            task.analyze();
            SourceTest test = new SourceTest(Trees.instance(task), unit);
            test.scan(unit, null);
            test.lookAtDepths();
            test.expect(test.classes > 0 && test.classes <= MOST_CLASSES, "11", unit, test.classes + " classes");
            System.out.println(test.wrong == 0 ? "the source keeps the rules" : test.wrong + " places of the source do not keep the rules");
            if (test.wrong != 0) System.exit(1);
        }
    }
}
