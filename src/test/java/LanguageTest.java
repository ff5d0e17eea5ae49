import com.sun.source.tree.AssignmentTree;
import com.sun.source.tree.BinaryTree;
import com.sun.source.tree.ClassTree;
import com.sun.source.tree.CompilationUnitTree;
import com.sun.source.tree.DoWhileLoopTree;
import com.sun.source.tree.ExpressionTree;
import com.sun.source.tree.ForLoopTree;
import com.sun.source.tree.ImportTree;
import com.sun.source.tree.LiteralTree;
import com.sun.source.tree.MethodInvocationTree;
import com.sun.source.tree.MethodTree;
import com.sun.source.tree.NewArrayTree;
import com.sun.source.tree.NewClassTree;
import com.sun.source.tree.ThrowTree;
import com.sun.source.tree.Tree;
import com.sun.source.tree.VariableTree;
import com.sun.source.tree.WhileLoopTree;
import com.sun.source.util.JavacTask;
import com.sun.source.util.TreePath;
import com.sun.source.util.TreePathScanner;
import com.sun.source.util.Trees;
import java.io.IOException;
import java.nio.file.Path;
import java.util.EnumSet;
import java.util.HashMap;
import java.util.HashSet;
import java.util.LinkedHashSet;
import java.util.List;
import java.util.Map;
import java.util.Set;
import javax.lang.model.element.Element;
import javax.lang.model.element.ElementKind;
import javax.lang.model.element.ExecutableElement;
import javax.lang.model.element.Modifier;
import javax.lang.model.element.TypeElement;
import javax.lang.model.type.ArrayType;
import javax.lang.model.type.DeclaredType;
import javax.lang.model.type.TypeKind;
import javax.lang.model.type.TypeMirror;
import javax.tools.JavaCompiler;
import javax.tools.StandardJavaFileManager;
import javax.tools.ToolProvider;

/**
 * The rules of LANGUAGE.md, as far as they can be seen from the text of the class; FaceTest looks
 * at rule 1. It allows what the class uses, and some rules allow more: what a change needs and its
 * rule allows is to be added here.
 */
final class LanguageTest extends TreePathScanner<Void, Void> {
    private static final int MOST_PARAMETERS = 7;
    private static final int MOST_LINES = 60;
    private static final int MOST_CALLS = 8;
    private static final int MOST_CLASSES = 12;
    private static final int MOST_FIELDS = 20;

    private static final Set<String> IMPORTS = Set.of("java.util.NoSuchElementException", "java.util.ArrayList",
            "java.util.List", "java.util.Arrays", "java.util.Iterator");
    private static final Set<String> LIBRARY_TYPES = Set.of("java.lang.String", "java.lang.StringBuilder",
            "java.lang.Integer", "java.util.ArrayList", "java.util.List");
    private static final Set<String> LIBRARY_CALLS = Set.of("java.lang.System.arraycopy", "java.util.Arrays.copyOf",
            "java.util.Arrays.copyOfRange", "java.util.Arrays.fill");
    private static final Set<String> NUMBER_CLASSES = Set.of("java.lang.Math", "java.lang.Integer", "java.lang.Long");
    private static final Set<String> THROWN = Set.of("IllegalStateException", "IllegalArgumentException",
            "IndexOutOfBoundsException", "ArithmeticException", "UnsupportedOperationException", "NoSuchElementException",
            "RuntimeException");
    private static final Set<Tree.Kind> FORBIDDEN = EnumSet.of(Tree.Kind.PACKAGE, Tree.Kind.LAMBDA_EXPRESSION,
            Tree.Kind.MEMBER_REFERENCE, Tree.Kind.SYNCHRONIZED, Tree.Kind.ASSERT, Tree.Kind.TRY, Tree.Kind.TYPE_CAST,
            Tree.Kind.INSTANCE_OF, Tree.Kind.ANNOTATION_TYPE, Tree.Kind.UNION_TYPE, Tree.Kind.INTERSECTION_TYPE);

    private final CompilationUnitTree unit;
    private final Trees trees;
    private final Map<Element, Set<Element>> calls = new HashMap<>();
    private final Map<Element, Integer> depths = new HashMap<>();
    private final Set<Element> open = new LinkedHashSet<>();
    private int classes = 0;

    private LanguageTest(CompilationUnitTree unit, Trees trees) {
        this.unit = unit;
        this.trees = trees;
    }

    public static void main(String[] args) throws IOException {
        Path source = Path.of(args.length > 0 ? args[0] : "src/main/java/CodeVerifier.java");
        JavaCompiler compiler = ToolProvider.getSystemJavaCompiler();
        try (StandardJavaFileManager files = compiler.getStandardFileManager(null, null, null)) {
            JavacTask task = (JavacTask) compiler.getTask(null, files, null, List.of("-proc:none"), null,
                    files.getJavaFileObjects(source));
            CompilationUnitTree unit = task.parse().iterator().next();
            task.analyze();
            LanguageTest test = new LanguageTest(unit, Trees.instance(task));
            test.scan(unit, null);
            test.callDepths();
            due(test.classes <= MOST_CLASSES, 11, "there are " + test.classes + " classes");
            due(test.calls.size() > 100, 11, "the methods were found: " + test.calls.size());
        }
        Run.end();
    }

    private static void due(boolean isKept, int rule, String what) {
        Run.same("rule " + rule + " of LANGUAGE.md is kept: " + what, isKept, true);
    }

    private void due(boolean isKept, int rule, Tree at) {
        String text = at.toString().strip();
        due(isKept, rule, "line " + line(trees.getSourcePositions().getStartPosition(unit, at)) + ", "
                + text.substring(0, Math.min(80, text.length())).replace('\n', ' '));
    }

    private long line(long position) {
        return unit.getLineMap().getLineNumber(position);
    }

    private Element elementOf(Tree tree) {
        return trees.getElement(TreePath.getPath(unit, tree));
    }

    private TypeMirror typeOf(Tree tree) {
        return trees.getTypeMirror(TreePath.getPath(unit, tree));
    }

    @Override
    public Void scan(Tree tree, Void nothing) {
        if (tree != null && FORBIDDEN.contains(tree.getKind())) {
            due(false, 2, tree);
        }
        return super.scan(tree, nothing);
    }

    // ---- rules 2 to 5: classes, types, library, static fields

    @Override
    public Void visitImport(ImportTree tree, Void nothing) {
        due(!tree.isStatic() && IMPORTS.contains(tree.getQualifiedIdentifier().toString()), 4, tree);
        return super.visitImport(tree, nothing);
    }

    @Override
    public Void visitClass(ClassTree tree, Void nothing) {
        classes++;
        int fields = 0;
        for (Tree member : tree.getMembers()) {
            due(member.getKind() != Tree.Kind.BLOCK, 5, member);
            if (member instanceof VariableTree && !elementOf(member).getModifiers().contains(Modifier.STATIC)) {
                fields++;
            }
        }
        due(fields <= MOST_FIELDS, 11, tree.getSimpleName() + " has " + fields + " fields");
        Element element = elementOf(tree);
        boolean isOutermost = element.getEnclosingElement().getKind() == ElementKind.PACKAGE;
        due(isOutermost || element.getModifiers().contains(Modifier.STATIC), 2, tree);
        due(element.getEnclosingElement().getKind() != ElementKind.METHOD, 2, tree);
        noteOverriding((TypeElement) element);
        return super.visitClass(tree, nothing);
    }

    /** What is called by the name of an abstract method is what the classes below it have there. */
    private void noteOverriding(TypeElement below) {
        if (below.getSuperclass().getKind() != TypeKind.DECLARED) {
            return;
        }
        Element above = ((DeclaredType) below.getSuperclass()).asElement();
        for (Element method : below.getEnclosedElements()) {
            for (Element other : above.getEnclosedElements()) {
                if (isOwn(above) && method.getKind() == ElementKind.METHOD && other.toString().equals(method.toString())) {
                    calls.computeIfAbsent(other, key -> new HashSet<>()).add(method);
                }
            }
        }
    }

    @Override
    public Void visitVariable(VariableTree tree, Void nothing) {
        Element element = elementOf(tree);
        TypeMirror type = element.asType();
        due(isAllowed(type), 3, tree);
        if (element.getModifiers().contains(Modifier.STATIC)) {
            boolean isConstant = element.getModifiers().contains(Modifier.FINAL) && tree.getInitializer() != null
                    && (type.getKind().isPrimitive() || type.toString().equals("java.lang.String"));
            due(isConstant, 5, tree);
        }
        return super.visitVariable(tree, nothing);
    }

    private boolean isAllowed(TypeMirror type) {
        if (type.getKind() == TypeKind.ARRAY) {
            TypeMirror component = ((ArrayType) type).getComponentType();
            boolean isRow = component.getKind() == TypeKind.ARRAY
                    && ((ArrayType) component).getComponentType().getKind().isPrimitive();
            return component.getKind().isPrimitive() || isRow || isOwn(((DeclaredType) component).asElement());
        }
        return type.getKind().isPrimitive() || isOwn(((DeclaredType) type).asElement())
                || LIBRARY_TYPES.contains(((DeclaredType) type).asElement().toString());
    }

    private static boolean isOwn(Element element) {
        return element.toString().startsWith("CodeVerifier");
    }

    // ---- rule 6: exceptions; rule 12: what is made

    @Override
    public Void visitThrow(ThrowTree tree, Void nothing) {
        boolean isPlain = false;
        if (tree.getExpression() instanceof NewClassTree) {
            NewClassTree made = (NewClassTree) tree.getExpression();
            List<? extends ExpressionTree> arguments = made.getArguments();
            isPlain = THROWN.contains(made.getIdentifier().toString()) && arguments.size() <= 1
                    && (arguments.isEmpty() || arguments.get(0) instanceof LiteralTree);
        }
        due(isPlain && !isInConstructor(), 6, tree);
        return super.visitThrow(tree, nothing);
    }

    @Override
    public Void visitNewClass(NewClassTree tree, Void nothing) {
        boolean isThrown = getCurrentPath().getParentPath().getLeaf() instanceof ThrowTree;
        due(isThrown || isInConstructor() && tree.getClassBody() == null, 12, tree);
        if (!isThrown) {
            noteCall(elementOf(tree));
        }
        return super.visitNewClass(tree, nothing);
    }

    @Override
    public Void visitNewArray(NewArrayTree tree, Void nothing) {
        due(isInConstructor(), 12, tree);
        return super.visitNewArray(tree, nothing);
    }

    /** Fields get their first values in the constructor too. */
    private boolean isInConstructor() {
        MethodTree method = enclosingMethod();
        return method == null || method.getReturnType() == null;
    }

    private MethodTree enclosingMethod() {
        for (Tree tree : getCurrentPath()) {
            if (tree instanceof MethodTree) {
                return (MethodTree) tree;
            }
        }
        return null;
    }

    // ---- rule 9: loops; rule 10: texts

    @Override
    public Void visitForLoop(ForLoopTree tree, Void nothing) {
        due(tree.getCondition() != null && !tree.getUpdate().isEmpty(), 9, tree);
        return super.visitForLoop(tree, nothing);
    }

    @Override
    public Void visitWhileLoop(WhileLoopTree tree, Void nothing) {
        due(false, 9, tree);
        return super.visitWhileLoop(tree, nothing);
    }

    @Override
    public Void visitDoWhileLoop(DoWhileLoopTree tree, Void nothing) {
        due(false, 9, tree);
        return super.visitDoWhileLoop(tree, nothing);
    }

    @Override
    public Void visitBinary(BinaryTree tree, Void nothing) {
        due(typeOf(tree).getKind().isPrimitive(), 10, tree);
        return super.visitBinary(tree, nothing);
    }

    @Override
    public Void visitAssignment(AssignmentTree tree, Void nothing) {
        Element left = elementOf(tree.getVariable());
        due(left == null || !left.getModifiers().contains(Modifier.STATIC), 5, tree);
        return super.visitAssignment(tree, nothing);
    }

    // ---- rules 4, 8 and 11: methods and calls

    @Override
    public Void visitMethod(MethodTree tree, Void nothing) {
        long first = line(trees.getSourcePositions().getStartPosition(unit, tree));
        long last = line(trees.getSourcePositions().getEndPosition(unit, tree));
        due(last - first < MOST_LINES, 11, tree.getName() + " has " + (last - first + 1) + " lines");
        due(tree.getParameters().size() <= MOST_PARAMETERS, 11, tree.getName() + "'s parameters");
        calls.computeIfAbsent(elementOf(tree), key -> new HashSet<>());
        return super.visitMethod(tree, nothing);
    }

    @Override
    public Void visitMethodInvocation(MethodInvocationTree tree, Void nothing) {
        Element method = elementOf(tree);
        Element owner = method.getEnclosingElement();
        String name = owner + "." + method.getSimpleName();
        boolean isNumberCall = NUMBER_CLASSES.contains(owner.toString()) && !name.endsWith("Exact");
        boolean isSuper = method.getKind() == ElementKind.CONSTRUCTOR;
        due(isOwn(owner) || isNumberCall || isSuper || LIBRARY_CALLS.contains(name), 4, tree);
        noteCall(method);
        boolean isOverridable = method instanceof ExecutableElement && method.getModifiers().contains(Modifier.ABSTRACT);
        due(!isInConstructor() || !isOverridable, 12, tree);
        return super.visitMethodInvocation(tree, nothing);
    }

    private void noteCall(Element called) {
        MethodTree from = enclosingMethod();
        if (from != null && isOwn(called.getEnclosingElement())) {
            calls.computeIfAbsent(elementOf(from), key -> new HashSet<>()).add(called);
        }
    }

    private void callDepths() {
        for (Element method : calls.keySet()) {
            int depth = depth(method);
            due(depth <= MOST_CALLS, 11, method.getEnclosingElement() + "." + method + " goes " + depth + " deep");
        }
    }

    /** How many calls stand open at once, this one too; an abstract method is the one below it. */
    private int depth(Element method) {
        if (depths.containsKey(method)) {
            return depths.get(method);
        }
        open.add(method);
        int depth = 0;
        for (Element called : calls.getOrDefault(method, Set.of())) {
            due(!open.contains(called), 8, called + " calls itself by way of " + open);
            depth = Math.max(depth, open.contains(called) ? MOST_CALLS : depth(called));
        }
        open.remove(method);
        depth += method.getModifiers().contains(Modifier.ABSTRACT) ? 0 : 1;
        depths.put(method, depth);
        return depth;
    }
}
