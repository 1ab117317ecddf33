import com.sun.source.tree.ArrayAccessTree;
import com.sun.source.tree.AssignmentTree;
import com.sun.source.tree.BinaryTree;
import com.sun.source.tree.BlockTree;
import com.sun.source.tree.ClassTree;
import com.sun.source.tree.CompilationUnitTree;
import com.sun.source.tree.CompoundAssignmentTree;
import com.sun.source.tree.DoWhileLoopTree;
import com.sun.source.tree.ForLoopTree;
import com.sun.source.tree.ExpressionTree;
import com.sun.source.tree.LiteralTree;
import com.sun.source.tree.MethodInvocationTree;
import com.sun.source.tree.MethodTree;
import com.sun.source.tree.NewArrayTree;
import com.sun.source.tree.NewClassTree;
import com.sun.source.tree.ParenthesizedTree;
import com.sun.source.tree.Tree;
import com.sun.source.tree.TypeCastTree;
import com.sun.source.tree.UnaryTree;
import com.sun.source.tree.VariableTree;
import com.sun.source.tree.WhileLoopTree;
import com.sun.source.util.JavacTask;
import com.sun.source.util.TreePath;
import com.sun.source.util.TreePathScanner;
import com.sun.source.util.Trees;
import java.nio.file.Files;
import java.nio.file.Path;
import java.util.HashMap;
import java.util.HashSet;
import java.util.List;
import java.util.Map;
import java.util.Set;
import java.util.TreeSet;
import javax.lang.model.element.Element;
import javax.lang.model.element.ElementKind;
import javax.lang.model.element.Modifier;
import javax.lang.model.type.ArrayType;
import javax.lang.model.type.TypeMirror;
import javax.tools.JavaCompiler;
import javax.tools.StandardJavaFileManager;
import javax.tools.ToolProvider;

/** The rules of LANGUAGE.md that can be read off the program, as the compiler itself reads it. */
public final class RulesTest extends TreePathScanner<Void, Void> {
    private static final Check CHECK = new Check();
    private static final Path SOURCE = Path.of("src/main/java/ChalkChain.java");
    private static final Set<Tree.Kind> BARRED = Set.of(Tree.Kind.LAMBDA_EXPRESSION, Tree.Kind.MEMBER_REFERENCE, Tree.Kind.THROW,
            Tree.Kind.TRY, Tree.Kind.CATCH, Tree.Kind.SYNCHRONIZED, Tree.Kind.ASSERT, Tree.Kind.ANNOTATION, Tree.Kind.PACKAGE,
            Tree.Kind.INSTANCE_OF, Tree.Kind.SWITCH_EXPRESSION, Tree.Kind.YIELD);
    private static final Set<Tree.Kind> CHANGES = Set.of(Tree.Kind.PREFIX_INCREMENT, Tree.Kind.PREFIX_DECREMENT,
            Tree.Kind.POSTFIX_INCREMENT, Tree.Kind.POSTFIX_DECREMENT);
    /** What the program calls of the library; all of it stands in rule 4. */
    private static final Set<String> LIBRARY = Set.of("java.lang.Math.min", "java.lang.Math.max", "java.lang.Integer.bitCount",
            "java.lang.System.arraycopy", "java.util.Arrays.fill", "java.lang.Object.<init>");
    /** Methods with a divisor that is no constant; each of them tests it ahead. */
    private static final Set<String> DIVIDES = Set.of("ChalkChain.safe", "ChalkChain.commonDivisor");
    private static final int MOST_CLASSES = 12;
    private static final int MOST_FIELDS = 20;
    private static final int MOST_PARAMETERS = 7;
    private static final int MOST_LINES = 60;
    private static final int MOST_CALLS_DEEP = 8;

    private final CompilationUnitTree unit;
    private final Trees trees;
    private final Map<Element, Set<Element>> calls = new HashMap<>();
    private final Set<String> publicNames = new HashSet<>();
    private final Set<String> privateNames = new TreeSet<>();
    private Element inMethod;
    private int classes;

    public static void main(String[] args) throws Exception {
        JavaCompiler compiler = ToolProvider.getSystemJavaCompiler();
        try (StandardJavaFileManager files = compiler.getStandardFileManager(null, null, null)) {
            JavacTask task = (JavacTask) compiler.getTask(null, files, null, List.of("-proc:none"), null, files.getJavaFileObjects(SOURCE));
            CompilationUnitTree unit = task.parse().iterator().next();
            task.analyze();
            RulesTest rules = new RulesTest(unit, Trees.instance(task));
            rules.scan(unit, null);
            rules.whole();
        }
        CHECK.close("RulesTest");
    }

    private RulesTest(CompilationUnitTree unit, Trees trees) {
        this.unit = unit;
        this.trees = trees;
    }

    private void due(int rule, String what, boolean holds) {
        long line = getCurrentPath() == null ? 0 : unit.getLineMap().getLineNumber(
                trees.getSourcePositions().getStartPosition(unit, getCurrentPath().getLeaf()));
        CHECK.due("rule " + rule + ", line " + line + ": " + what, holds, true);
    }

    private Element element(Tree tree) {
        return trees.getElement(new TreePath(getCurrentPath(), tree));
    }

    private String type(Tree tree) {
        return String.valueOf(trees.getTypeMirror(new TreePath(getCurrentPath(), tree)));
    }

    private static boolean isStatic(Element e) {
        return e != null && e.getModifiers().contains(Modifier.STATIC);
    }

    /** What holds of the file as a whole. */
    private void whole() throws Exception {
        String source = Files.readString(SOURCE);
        due(1, "one class in the file", unit.getTypeDecls().size() == 1);
        due(4, "imports", unit.getImports().size() == 1 && unit.getImports().get(0).toString().strip().equals("import java.util.Arrays;"));
        due(11, "classes: " + classes, classes <= MOST_CLASSES);
        due(3, "signs of the source are 1 to 127", source.chars().allMatch(sign -> sign > 0 && sign < 128));
        for (String name : privateNames) {
            due(1, "a private method bears the name of a public one: " + name, !publicNames.contains(name));
        }
        for (Element method : calls.keySet()) {
            int deep = depth(method, 0);
            due(deep > MOST_CALLS_DEEP ? 11 : 8, method + " calls " + deep + " deep", deep <= MOST_CALLS_DEEP);
        }
    }

    /** How many calls stand open at once from a method on, itself among them; a ring of calls goes beyond all bounds. */
    private int depth(Element method, int open) {
        int most = 0;
        if (open <= MOST_CALLS_DEEP) {
            for (Element other : calls.getOrDefault(method, Set.of())) {
                most = Math.max(most, depth(other, open + 1));
            }
        }
        return most + 1;
    }

    @Override
    public Void scan(Tree tree, Void nothing) {
        if (tree != null) {
            due(6, "no " + tree.getKind(), !BARRED.contains(tree.getKind()));
        }
        return super.scan(tree, nothing);
    }

    @Override
    public Void visitClass(ClassTree tree, Void nothing) {
        classes++;
        Tree around = getCurrentPath().getParentPath().getLeaf();
        Set<Modifier> flags = tree.getModifiers().getFlags();
        if (around instanceof ClassTree) {
            due(1, "a class inside is not seen outside: " + tree.getSimpleName(), flags.contains(Modifier.PRIVATE));
            due(2, "a class inside is static: " + tree.getSimpleName(), flags.contains(Modifier.STATIC));
        } else {
            due(2, "no class in a method: " + tree.getSimpleName(), around instanceof CompilationUnitTree);
            due(1, "the class is public and final", flags.contains(Modifier.PUBLIC) && flags.contains(Modifier.FINAL));
        }
        due(2, "no type parameters, nothing above it: " + tree.getSimpleName(), tree.getTypeParameters().isEmpty()
                && tree.getExtendsClause() == null && tree.getImplementsClause().isEmpty());
        int fields = 0;
        for (Tree member : tree.getMembers()) {
            fields += member instanceof VariableTree field && !field.getModifiers().getFlags().contains(Modifier.STATIC) ? 1 : 0;
            due(5, "no block outside a method: " + tree.getSimpleName(), !(member instanceof BlockTree));
        }
        due(11, fields + " fields in " + tree.getSimpleName(), fields <= MOST_FIELDS);
        return super.visitClass(tree, nothing);
    }

    @Override
    public Void visitMethod(MethodTree tree, Void nothing) {
        Element before = inMethod;
        inMethod = trees.getElement(getCurrentPath());
        calls.putIfAbsent(inMethod, new HashSet<>());
        Set<Modifier> flags = tree.getModifiers().getFlags();
        boolean isFace = flags.contains(Modifier.PUBLIC);
        if (tree.getReturnType() != null) {
            (isFace ? publicNames : privateNames).add(tree.getName().toString());
        }
        if (inMethod.getEnclosingElement().getSimpleName().contentEquals("ChalkChain")) {
            due(1, tree.getName() + " is public or private", isFace || flags.contains(Modifier.PRIVATE));
        }
        due(6, tree.getName() + " throws nothing", tree.getThrows().isEmpty());
        due(6, tree.getName() + " is no method of all objects", !Set.of("equals", "hashCode", "toString", "finalize", "clone")
                .contains(tree.getName().toString()));
        due(11, tree.getName() + " takes " + tree.getParameters().size(), tree.getParameters().size() <= MOST_PARAMETERS);
        long from = unit.getLineMap().getLineNumber(trees.getSourcePositions().getStartPosition(unit, tree));
        long to = unit.getLineMap().getLineNumber(Math.max(0, trees.getSourcePositions().getEndPosition(unit, tree)));
        due(11, tree.getName() + " has " + (to - from + 1) + " lines", to - from < MOST_LINES);
        super.visitMethod(tree, nothing);
        inMethod = before;
        return null;
    }

    @Override
    public Void visitVariable(VariableTree tree, Void nothing) {
        Element variable = trees.getElement(getCurrentPath());
        due(3, tree.getName() + " is of a type that may be: " + variable.asType(), mayBe(variable.asType()));
        if (variable.getKind() == ElementKind.FIELD) {
            Set<Modifier> flags = tree.getModifiers().getFlags();
            due(5, tree.getName() + " is no static state", !flags.contains(Modifier.STATIC) || flags.contains(Modifier.FINAL)
                    && (tree.getInitializer() instanceof NewArrayTree row && row.getInitializers() != null
                    || variable.asType().getKind().isPrimitive()));
            boolean named = variable.getEnclosingElement().getSimpleName().contentEquals("ChalkChain");
            due(1, tree.getName() + " is not seen outside", !named || flags.contains(Modifier.PRIVATE) || tree.getName().contentEquals("NONE"));
        }
        return super.visitVariable(tree, nothing);
    }

    private static boolean mayBe(TypeMirror type) {
        if (type instanceof ArrayType row) {
            return !(row.getComponentType() instanceof ArrayType) && mayBe(row.getComponentType());
        }
        return type.getKind().isPrimitive() || type.toString().startsWith("ChalkChain");
    }

    @Override
    public Void visitMethodInvocation(MethodInvocationTree tree, Void nothing) {
        Element called = element(tree.getMethodSelect());
        String name = called.getEnclosingElement() + "." + called.getSimpleName();
        if (name.startsWith("ChalkChain")) {
            calls.get(inMethod).add(called);
        } else {
            due(4, "the library has " + name, LIBRARY.contains(name));
        }
        return super.visitMethodInvocation(tree, nothing);
    }

    /** Stricter than rule 12: what a call needs is made once, as the object is. */
    private void dueMade(String what) {
        due(12, what + " is made in a constructor", inMethod == null || inMethod.getKind() == ElementKind.CONSTRUCTOR);
    }

    @Override
    public Void visitNewClass(NewClassTree tree, Void nothing) {
        due(2, "no class without a name", tree.getClassBody() == null);
        due(3, "only own classes are made: " + tree.getIdentifier(), type(tree).startsWith("ChalkChain."));
        dueMade(tree.toString());
        if (inMethod != null) {
            calls.get(inMethod).add(element(tree));
        }
        return super.visitNewClass(tree, nothing);
    }

    @Override
    public Void visitNewArray(NewArrayTree tree, Void nothing) {
        dueMade(tree.toString());
        return super.visitNewArray(tree, nothing);
    }

    private void dueNoStatic(ExpressionTree target) {
        ExpressionTree inner = target instanceof ArrayAccessTree at ? at.getExpression() : target;
        due(5, "nothing static is changed: " + target, !isStatic(element(inner)));
    }

    @Override
    public Void visitAssignment(AssignmentTree tree, Void nothing) {
        dueNoStatic(tree.getVariable());
        return super.visitAssignment(tree, nothing);
    }

    @Override
    public Void visitCompoundAssignment(CompoundAssignmentTree tree, Void nothing) {
        dueNoStatic(tree.getVariable());
        boolean divides = tree.getKind() == Tree.Kind.DIVIDE_ASSIGNMENT || tree.getKind() == Tree.Kind.REMAINDER_ASSIGNMENT;
        due(7, "a divisor is tested: " + tree, !divides);
        return super.visitCompoundAssignment(tree, nothing);
    }

    @Override
    public Void visitUnary(UnaryTree tree, Void nothing) {
        if (CHANGES.contains(tree.getKind())) {
            dueNoStatic(tree.getExpression());
        }
        return super.visitUnary(tree, nothing);
    }

    @Override
    public Void visitBinary(BinaryTree tree, Void nothing) {
        if (tree.getKind() == Tree.Kind.DIVIDE || tree.getKind() == Tree.Kind.REMAINDER) {
            boolean constant = tree.getRightOperand() instanceof LiteralTree number && !number.getValue().equals(0);
            String where = inMethod.getEnclosingElement() + "." + inMethod.getSimpleName();
            due(7, "a divisor is tested: " + tree, constant || DIVIDES.contains(where));
        }
        due(10, "no texts are joined: " + tree, !type(tree).equals("java.lang.String"));
        return super.visitBinary(tree, nothing);
    }

    @Override
    public Void visitTypeCast(TypeCastTree tree, Void nothing) {
        due(6, "only numbers are cast: " + tree, tree.getType().getKind() == Tree.Kind.PRIMITIVE_TYPE);
        return super.visitTypeCast(tree, nothing);
    }

    private void dueBound(ExpressionTree condition) {
        ExpressionTree inner = condition;
        while (inner instanceof ParenthesizedTree pair) {
            inner = pair.getExpression();
        }
        due(9, "a loop has a bound: " + inner, inner instanceof BinaryTree);
    }

    @Override
    public Void visitForLoop(ForLoopTree tree, Void nothing) {
        dueBound(tree.getCondition());
        due(9, "a loop has a counter", !tree.getInitializer().isEmpty() && !tree.getUpdate().isEmpty());
        return super.visitForLoop(tree, nothing);
    }

    @Override
    public Void visitWhileLoop(WhileLoopTree tree, Void nothing) {
        dueBound(tree.getCondition());
        return super.visitWhileLoop(tree, nothing);
    }

    @Override
    public Void visitDoWhileLoop(DoWhileLoopTree tree, Void nothing) {
        dueBound(tree.getCondition());
        return super.visitDoWhileLoop(tree, nothing);
    }
}
