import com.sun.source.tree.AssertTree;
import com.sun.source.tree.BinaryTree;
import com.sun.source.tree.ClassTree;
import com.sun.source.tree.CompilationUnitTree;
import com.sun.source.tree.CompoundAssignmentTree;
import com.sun.source.tree.DoWhileLoopTree;
import com.sun.source.tree.ExpressionTree;
import com.sun.source.tree.ForLoopTree;
import com.sun.source.tree.LambdaExpressionTree;
import com.sun.source.tree.LiteralTree;
import com.sun.source.tree.MemberReferenceTree;
import com.sun.source.tree.MethodInvocationTree;
import com.sun.source.tree.MethodTree;
import com.sun.source.tree.NewArrayTree;
import com.sun.source.tree.NewClassTree;
import com.sun.source.tree.SynchronizedTree;
import com.sun.source.tree.ThrowTree;
import com.sun.source.tree.Tree;
import com.sun.source.tree.TryTree;
import com.sun.source.tree.TypeCastTree;
import com.sun.source.tree.VariableTree;
import com.sun.source.tree.WhileLoopTree;
import com.sun.source.util.JavacTask;
import com.sun.source.util.TreePathScanner;
import com.sun.source.util.Trees;
import java.io.File;
import java.io.IOException;
import java.util.ArrayDeque;
import java.util.Deque;
import java.util.List;
import java.util.Map;
import java.util.Set;
import java.util.TreeMap;
import java.util.TreeSet;
import javax.lang.model.element.Element;
import javax.lang.model.element.ElementKind;
import javax.lang.model.element.Modifier;
import javax.lang.model.element.TypeElement;
import javax.lang.model.element.VariableElement;
import javax.lang.model.type.ArrayType;
import javax.lang.model.type.DeclaredType;
import javax.lang.model.type.TypeKind;
import javax.lang.model.type.TypeMirror;
import javax.tools.JavaCompiler;
import javax.tools.StandardJavaFileManager;
import javax.tools.ToolProvider;

/** What of LANGUAGE.md shows in the program as the compiler reads it: who calls whom, what is made, divided, looped over. */
public final class ShapeTest extends TreePathScanner<Void, Void> {
    private static final int MOST_DEEP = 8;
    private static final Set<String> LIBRARY = Set.of("java.lang.Math.max", "java.lang.Math.min", "java.lang.Math.abs",
            "java.lang.Long.bitCount", "java.lang.System.arraycopy", "java.lang.Object.<init>");
    /** Divisors that are no constants; each is tested against 0 ahead of the division. */
    private static final Set<String> TESTED_DIVISORS = Set.of("Ground.partOf owned");
    /** Its depth is an argument, and stops at 8 HOLES. */
    private static final Set<String> GUARDED_RECURSION = Set.of("Mole.seek");

    private final Check check = new Check();
    private final Trees trees;
    private final Map<String, Set<String>> calls = new TreeMap<>();
    private final Deque<String> methods = new ArrayDeque<>();
    private final Deque<String> classes = new ArrayDeque<>();
    private int loops;
    private int divisions;

    private ShapeTest(Trees trees) {
        this.trees = trees;
    }

    public static void main(String[] args) throws IOException {
        File source = new File(args.length > 0 ? args[0] : "src/main/java/HoleCounty.java");
        JavaCompiler compiler = ToolProvider.getSystemJavaCompiler();
        try (StandardJavaFileManager files = compiler.getStandardFileManager(null, null, null)) {
            JavacTask task = (JavacTask) compiler.getTask(null, files, null, List.of("-proc:none"), null,
                    files.getJavaFileObjects(source));
            Iterable<? extends CompilationUnitTree> units = task.parse();
            task.analyze();
            ShapeTest test = new ShapeTest(Trees.instance(task));
            test.scan(units, null);
            test.chains();
            test.check.end("ShapeTest");
        }
    }

    private void no(String what) {
        check.holds(where() + ": " + what, false);
    }

    private String where() {
        return methods.isEmpty() ? classes.isEmpty() ? "" : classes.peek() : methods.peek();
    }

    private Element element(Tree tree) {
        return trees.getElement(trees.getPath(getCurrentPath().getCompilationUnit(), tree));
    }

    private TypeMirror type(Tree tree) {
        return trees.getTypeMirror(trees.getPath(getCurrentPath().getCompilationUnit(), tree));
    }

    private static boolean isOwn(Element of) {
        Element outmost = of;
        while (outmost.getEnclosingElement() != null && outmost.getEnclosingElement().getKind() != ElementKind.PACKAGE) {
            outmost = outmost.getEnclosingElement();
        }
        return outmost.getSimpleName().contentEquals("HoleCounty");
    }

    // ---- rules 1, 2, 5: classes, methods, fields

    @Override
    public Void visitClass(ClassTree tree, Void none) {
        check.holds(tree.getSimpleName() + " is a class with a name, in no method", !tree.getSimpleName().isEmpty() && methods.isEmpty());
        check.holds(tree.getSimpleName() + " is the face or static inside it", classes.isEmpty()
                || tree.getModifiers().getFlags().contains(Modifier.STATIC) && classes.size() == 1);
        classes.push(tree.getSimpleName().toString());
        super.visitClass(tree, none);
        classes.pop();
        return null;
    }

    @Override
    public Void visitMethod(MethodTree tree, Void none) {
        String name = classes.peek() + "." + tree.getName();
        check.holds(name + " has a name of its own", calls.put(name, new TreeSet<>()) == null);
        methods.push(name);
        super.visitMethod(tree, none);
        methods.pop();
        return null;
    }

    @Override
    public Void visitVariable(VariableTree tree, Void none) {
        VariableElement variable = (VariableElement) element(tree);
        check.holds(where() + " " + tree.getName() + " is of a type that may be: " + variable.asType(), mayBe(variable.asType(), 0));
        if (variable.getModifiers().contains(Modifier.STATIC)) {
            check.holds(where() + " " + tree.getName() + " is a constant", variable.getConstantValue() != null);
        }
        return super.visitVariable(tree, none);
    }

    private static boolean mayBe(TypeMirror type, int dimensions) {
        if (type.getKind() == TypeKind.ARRAY) {
            return mayBe(((ArrayType) type).getComponentType(), dimensions + 1);
        }
        if (type.getKind().isPrimitive()) {
            return dimensions <= 2 && type.getKind() != TypeKind.DOUBLE && type.getKind() != TypeKind.FLOAT;
        }
        return dimensions <= 1 && type instanceof DeclaredType own && isOwn(own.asElement());
    }

    // ---- rules 4, 8, 11, 12: calls, and what is made

    private void call(Element called) {
        String name = ((TypeElement) called.getEnclosingElement()).getSimpleName() + "." + called.getSimpleName();
        if (isOwn(called)) {
            if (!methods.isEmpty()) {
                calls.get(methods.peek()).add(name);
            }
        } else {
            String whole = ((TypeElement) called.getEnclosingElement()).getQualifiedName() + "." + called.getSimpleName();
            check.holds(where() + " calls the library: " + whole, LIBRARY.contains(whole));
        }
    }

    @Override
    public Void visitMethodInvocation(MethodInvocationTree tree, Void none) {
        call(element(tree));
        return super.visitMethodInvocation(tree, none);
    }

    @Override
    public Void visitNewClass(NewClassTree tree, Void none) {
        call(element(tree));
        madeAtFirst("an object");
        return super.visitNewClass(tree, none);
    }

    @Override
    public Void visitNewArray(NewArrayTree tree, Void none) {
        madeAtFirst("a row");
        for (ExpressionTree length : tree.getDimensions()) {
            check.holds(where() + " makes a row of a length that is known: " + length, constant(length) > 0);
        }
        return super.visitNewArray(tree, none);
    }

    /** No call makes anything: rows are made with the object and used again. */
    private void madeAtFirst(String what) {
        check.holds(where() + " makes " + what, methods.isEmpty() || methods.peek().endsWith(".<init>"));
    }

    private void chains() {
        check.holds("methods are seen: " + calls.size(), calls.size() > 100);
        for (String method : calls.keySet()) {
            deep(method, new ArrayDeque<>());
        }
        check.holds("loops are seen: " + loops, loops > 40);
        check.holds("divisions are seen: " + divisions, divisions > 10);
    }

    private void deep(String method, Deque<String> above) {
        if (above.contains(method)) {
            check.holds(method + " calls itself by " + above, above.peek().equals(method) && GUARDED_RECURSION.contains(method));
            return;
        }
        above.push(method);
        check.holds("calls at most eight deep: " + above, above.size() <= MOST_DEEP);
        for (String next : calls.getOrDefault(method, Set.of())) {
            deep(next, above);
        }
        above.pop();
    }

    // ---- rules 7, 9: divisors, casts, loops

    private long constant(ExpressionTree tree) {
        if (tree instanceof LiteralTree literal && literal.getValue() instanceof Number number) {
            return number.longValue();
        }
        if (element(tree) instanceof VariableElement variable && variable.getConstantValue() instanceof Number number) {
            return number.longValue();
        }
        if (tree instanceof BinaryTree both && both.getKind() == Tree.Kind.MULTIPLY) {
            return constant(both.getLeftOperand()) * constant(both.getRightOperand());
        }
        return 0;
    }

    private void divisor(ExpressionTree by) {
        divisions++;
        boolean tested = TESTED_DIVISORS.contains(methods.peek() + " " + by);
        check.holds(where() + " divides by " + by, tested || constant(by) != 0);
    }

    @Override
    public Void visitBinary(BinaryTree tree, Void none) {
        if (tree.getKind() == Tree.Kind.DIVIDE || tree.getKind() == Tree.Kind.REMAINDER) {
            divisor(tree.getRightOperand());
        }
        return super.visitBinary(tree, none);
    }

    @Override
    public Void visitCompoundAssignment(CompoundAssignmentTree tree, Void none) {
        if (tree.getKind() == Tree.Kind.DIVIDE_ASSIGNMENT || tree.getKind() == Tree.Kind.REMAINDER_ASSIGNMENT) {
            divisor(tree.getExpression());
        }
        return super.visitCompoundAssignment(tree, none);
    }

    @Override
    public Void visitTypeCast(TypeCastTree tree, Void none) {
        check.holds(where() + " casts among numbers: " + tree, type(tree.getType()).getKind().isPrimitive());
        return super.visitTypeCast(tree, none);
    }

    private void loop(ExpressionTree goesOn) {
        loops++;
        String compared = goesOn == null ? "" : goesOn.toString().replaceAll("<<|>>>?", "");
        check.holds(where() + " has a bound in its loop: " + goesOn, compared.matches("(?s).*[<>].*"));
    }

    @Override
    public Void visitForLoop(ForLoopTree tree, Void none) {
        loop(tree.getCondition());
        return super.visitForLoop(tree, none);
    }

    @Override
    public Void visitWhileLoop(WhileLoopTree tree, Void none) {
        loop(tree.getCondition());
        return super.visitWhileLoop(tree, none);
    }

    @Override
    public Void visitDoWhileLoop(DoWhileLoopTree tree, Void none) {
        loop(tree.getCondition());
        return super.visitDoWhileLoop(tree, none);
    }

    // ---- rules 2, 6: what may not stand at all

    @Override
    public Void visitLambdaExpression(LambdaExpressionTree tree, Void none) {
        no("a lambda");
        return null;
    }

    @Override
    public Void visitMemberReference(MemberReferenceTree tree, Void none) {
        no("a method reference");
        return null;
    }

    @Override
    public Void visitTry(TryTree tree, Void none) {
        no("try");
        return null;
    }

    @Override
    public Void visitThrow(ThrowTree tree, Void none) {
        no("throw");
        return null;
    }

    @Override
    public Void visitSynchronized(SynchronizedTree tree, Void none) {
        no("synchronized");
        return null;
    }

    @Override
    public Void visitAssert(AssertTree tree, Void none) {
        no("assert");
        return null;
    }
}
