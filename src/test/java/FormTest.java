import com.sun.source.tree.ArrayTypeTree;
import com.sun.source.tree.AssertTree;
import com.sun.source.tree.BlockTree;
import com.sun.source.tree.ClassTree;
import com.sun.source.tree.CompilationUnitTree;
import com.sun.source.tree.ExpressionTree;
import com.sun.source.tree.ForLoopTree;
import com.sun.source.tree.IdentifierTree;
import com.sun.source.tree.InstanceOfTree;
import com.sun.source.tree.LambdaExpressionTree;
import com.sun.source.tree.LiteralTree;
import com.sun.source.tree.MemberReferenceTree;
import com.sun.source.tree.MemberSelectTree;
import com.sun.source.tree.MethodInvocationTree;
import com.sun.source.tree.MethodTree;
import com.sun.source.tree.NewArrayTree;
import com.sun.source.tree.NewClassTree;
import com.sun.source.tree.PrimitiveTypeTree;
import com.sun.source.tree.SynchronizedTree;
import com.sun.source.tree.ThrowTree;
import com.sun.source.tree.Tree;
import com.sun.source.tree.TryTree;
import com.sun.source.tree.VariableTree;
import com.sun.source.tree.WhileLoopTree;
import com.sun.source.util.JavacTask;
import com.sun.source.util.TreePath;
import com.sun.source.util.TreePathScanner;
import com.sun.source.util.Trees;
import java.io.File;
import java.util.HashSet;
import java.util.List;
import java.util.Map;
import java.util.Set;
import java.util.TreeMap;
import java.util.TreeSet;
import javax.lang.model.element.Modifier;
import javax.lang.model.type.TypeKind;
import javax.tools.JavaCompiler;
import javax.tools.StandardJavaFileManager;
import javax.tools.ToolProvider;

/**
 * Most rules of LANGUAGE.md, read off the code, each complaint with its rule's number. It does not see whether
 * a call may throw (rule 7), whether a bound is reached (rule 8), or array aliases and comparisons (rule 4).
 */
public final class FormTest extends TreePathScanner<Void, Void> {
    private static final File SOURCE = new File("src/main/java/DeterminantDesk.java");
    private static final int MOST_PARAMETERS = 7;
    private static final int MOST_LINES = 60;
    private static final int MOST_CALLS_DEEP = 6;
    private static final int MOST_FIELDS = 40;

    private final CompilationUnitTree unit;
    private final Trees trees;
    private final Set<String> declared = new HashSet<>();
    private final Set<String> used = new TreeSet<>();
    private final Set<String> constants = new HashSet<>();
    private final Set<String> methods = new TreeSet<>();
    private final Map<String, Set<String>> callees = new TreeMap<>();
    private int classes = 0;
    private int fields = 0;
    private int wrong = 0;

    private FormTest(CompilationUnitTree unit, Trees trees) {
        this.unit = unit;
        this.trees = trees;
    }

    public static void main(String[] args) throws Exception {
        JavaCompiler compiler = ToolProvider.getSystemJavaCompiler();
        try (StandardJavaFileManager files = compiler.getStandardFileManager(null, null, null)) {
            JavacTask task = (JavacTask) compiler.getTask(
                    null, files, null, List.of("--release", "17"), null, files.getJavaFileObjects(SOURCE));
            CompilationUnitTree unit = task.parse().iterator().next();
            FormTest form = new FormTest(unit, Trees.instance(task));
            form.look();
            System.out.println(form.wrong == 0 ? "the form is as due" : form.wrong + " places are outside the rules");
            if (form.wrong != 0) {
                System.exit(1);
            }
        }
    }

    private void look() {
        require(1, unit, unit.getPackage() == null, "a package line");
        require(3, unit, unit.getImports().isEmpty(), "an import");
        scan(new TreePath(unit), null);
        require(1, unit, classes == 1, classes + " classes");
        require(10, unit, fields <= MOST_FIELDS, fields + " fields");
        used.removeAll(declared);
        require(3, unit, used.isEmpty(), "names from outside: " + used);
        for (String name : methods) {
            require(10, unit, callsDeep(name, 1) <= MOST_CALLS_DEEP, name + " calls too deep, or itself (rule 8)");
        }
    }

    private void require(int rule, Tree place, boolean holds, String what) {
        if (!holds) {
            wrong++;
            System.out.println("rule " + rule + ", line " + lineOf(trees.getSourcePositions().getStartPosition(unit, place))
                    + ": " + what);
        }
    }

    private long lineOf(long position) {
        return unit.getLineMap().getLineNumber(Math.max(0, position));
    }

    /** Not looked at past the limit, where a method that comes back to itself would never end. */
    private int callsDeep(String name, int deep) {
        int deepest = deep;
        if (deep <= MOST_CALLS_DEEP) {
            for (String callee : callees.getOrDefault(name, Set.of())) {
                deepest = Math.max(deepest, callsDeep(callee, deep + 1));
            }
        }
        return deepest;
    }

    private MethodTree method() {
        for (TreePath path = getCurrentPath(); path != null; path = path.getParentPath()) {
            if (path.getLeaf() instanceof MethodTree) {
                return (MethodTree) path.getLeaf();
            }
        }
        return null;
    }

    private static boolean isConstructor(MethodTree method) {
        return method.getReturnType() == null;
    }

    @Override
    public Void visitClass(ClassTree tree, Void none) {
        classes++;
        declared.add(tree.getSimpleName().toString());
        Set<Modifier> due = Set.of(Modifier.PUBLIC, Modifier.FINAL);
        require(1, tree, tree.getModifiers().getFlags().equals(due), "the class is not public and final alone");
        require(1, tree, tree.getKind() == Tree.Kind.CLASS, "an interface, enum or record");
        require(1, tree, tree.getExtendsClause() == null && tree.getImplementsClause().isEmpty(), "a class above it");
        for (Tree member : tree.getMembers()) {
            require(5, member, !(member instanceof BlockTree), "an initialiser block");
        }
        return super.visitClass(tree, none);
    }

    @Override
    public Void visitMethod(MethodTree tree, Void none) {
        String name = tree.getName().toString();
        declared.add(name);
        // Two methods of one name would be one in the call graph, and a private one might hide a public one.
        require(1, tree, methods.add(name), "two methods of the name " + name);
        require(10, tree, tree.getParameters().size() <= MOST_PARAMETERS, name + " has too many parameters");
        require(6, tree, tree.getThrows().isEmpty(), name + " throws");
        require(4, tree, !(tree.getReturnType() instanceof ArrayTypeTree), name + " answers an array");
        require(2, tree, isConstructor(tree) || tree.getReturnType() instanceof PrimitiveTypeTree, name + " answers an object");
        long first = lineOf(trees.getSourcePositions().getStartPosition(unit, tree));
        long last = lineOf(trees.getSourcePositions().getEndPosition(unit, tree));
        require(10, tree, last - first < MOST_LINES, name + " is too long");
        return super.visitMethod(tree, none);
    }

    @Override
    public Void visitVariable(VariableTree tree, Void none) {
        declared.add(tree.getName().toString());
        boolean array = tree.getType() instanceof ArrayTypeTree;
        Tree type = array ? ((ArrayTypeTree) tree.getType()).getType() : tree.getType();
        require(2, tree, type instanceof PrimitiveTypeTree, "a type that is not a number's or a plain array of numbers");
        if (getCurrentPath().getParentPath().getLeaf() instanceof ClassTree) {
            field(tree, array);
        }
        return super.visitVariable(tree, none);
    }

    private void field(VariableTree tree, boolean array) {
        Set<Modifier> flags = tree.getModifiers().getFlags();
        if (!flags.contains(Modifier.STATIC)) {
            fields++;
            require(1, tree, flags.contains(Modifier.PRIVATE), "a field that is not private");
            require(4, tree, !array || flags.contains(Modifier.FINAL) && tree.getInitializer() instanceof NewArrayTree,
                    "an array that is not made here once");
            return;
        }
        boolean number = tree.getType() instanceof PrimitiveTypeTree
                && Set.of(TypeKind.INT, TypeKind.LONG).contains(((PrimitiveTypeTree) tree.getType()).getPrimitiveTypeKind());
        require(5, tree, number && flags.contains(Modifier.FINAL) && tree.getInitializer() != null, "a static field that is no constant");
        constants.add(tree.getName().toString());
    }

    @Override
    public Void visitNewArray(NewArrayTree tree, Void none) {
        require(4, tree, method() == null, "an array made outside the fields' initialisers");
        require(4, tree, tree.getInitializers() == null && tree.getDimensions().size() == 1, "an array without a plain length");
        for (ExpressionTree length : tree.getDimensions()) {
            boolean literal = length instanceof LiteralTree && !((LiteralTree) length).getValue().equals(0);
            require(4, tree, literal || constants.contains(length.toString()), "a length that is no literal or constant");
        }
        return super.visitNewArray(tree, none);
    }

    @Override
    public Void visitMethodInvocation(MethodInvocationTree tree, Void none) {
        boolean plain = tree.getMethodSelect() instanceof IdentifierTree;
        String name = tree.getMethodSelect().toString();
        // Every constructor begins with this call, which the compiler writes.
        boolean implicit = name.equals("super") && tree.getArguments().isEmpty();
        require(3, tree, plain || implicit, "a call of something else's method: " + name);
        if (method() != null && !implicit) {
            callees.computeIfAbsent(method().getName().toString(), key -> new TreeSet<>()).add(name);
        }
        require(10, tree, !standsInACall(), "a call inside the arguments of another");
        return super.visitMethodInvocation(tree, none);
    }

    private boolean standsInACall() {
        for (TreePath path = getCurrentPath().getParentPath(); path != null; path = path.getParentPath()) {
            if (path.getLeaf() instanceof MethodInvocationTree) {
                return true;
            }
        }
        return false;
    }

    @Override
    public Void visitIdentifier(IdentifierTree tree, Void none) {
        String name = tree.getName().toString();
        if (!name.equals("this") && !name.equals("super")) {
            used.add(name);
        }
        return super.visitIdentifier(tree, none);
    }

    @Override
    public Void visitMemberSelect(MemberSelectTree tree, Void none) {
        String name = tree.getIdentifier().toString();
        require(3, tree, name.equals("length") || tree.getExpression().toString().equals("this"), "a member of something else");
        return super.visitMemberSelect(tree, none);
    }

    @Override
    public Void visitPrimitiveType(PrimitiveTypeTree tree, Void none) {
        TypeKind kind = tree.getPrimitiveTypeKind();
        require(2, tree, kind != TypeKind.FLOAT && kind != TypeKind.DOUBLE, "a float or double");
        return super.visitPrimitiveType(tree, none);
    }

    @Override
    public Void visitLiteral(LiteralTree tree, Void none) {
        Set<Tree.Kind> fine = Set.of(Tree.Kind.INT_LITERAL, Tree.Kind.LONG_LITERAL, Tree.Kind.CHAR_LITERAL, Tree.Kind.BOOLEAN_LITERAL);
        require(2, tree, fine.contains(tree.getKind()), "a literal that is no whole number: " + tree);
        return super.visitLiteral(tree, none);
    }

    @Override
    public Void visitForLoop(ForLoopTree tree, Void none) {
        require(8, tree, tree.getCondition() != null && !tree.getUpdate().isEmpty(), "a loop without an end");
        return super.visitForLoop(tree, none);
    }

    @Override
    public Void visitWhileLoop(WhileLoopTree tree, Void none) {
        require(8, tree, !tree.getCondition().toString().equals("(true)"), "a loop without an end");
        return super.visitWhileLoop(tree, none);
    }

    @Override
    public Void visitNewClass(NewClassTree tree, Void none) {
        require(4, tree, false, "an object made");
        return super.visitNewClass(tree, none);
    }

    @Override
    public Void visitThrow(ThrowTree tree, Void none) {
        require(6, tree, false, "throw");
        return super.visitThrow(tree, none);
    }

    @Override
    public Void visitTry(TryTree tree, Void none) {
        require(6, tree, false, "try");
        return super.visitTry(tree, none);
    }

    @Override
    public Void visitSynchronized(SynchronizedTree tree, Void none) {
        require(6, tree, false, "synchronized");
        return super.visitSynchronized(tree, none);
    }

    @Override
    public Void visitAssert(AssertTree tree, Void none) {
        require(6, tree, false, "assert");
        return super.visitAssert(tree, none);
    }

    @Override
    public Void visitInstanceOf(InstanceOfTree tree, Void none) {
        require(6, tree, false, "instanceof");
        return super.visitInstanceOf(tree, none);
    }

    @Override
    public Void visitLambdaExpression(LambdaExpressionTree tree, Void none) {
        require(6, tree, false, "a lambda");
        return super.visitLambdaExpression(tree, none);
    }

    @Override
    public Void visitMemberReference(MemberReferenceTree tree, Void none) {
        require(6, tree, false, "a method reference");
        return super.visitMemberReference(tree, none);
    }
}
