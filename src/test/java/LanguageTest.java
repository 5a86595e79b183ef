import com.sun.source.tree.AssertTree;
import com.sun.source.tree.AssignmentTree;
import com.sun.source.tree.BinaryTree;
import com.sun.source.tree.BlockTree;
import com.sun.source.tree.ClassTree;
import com.sun.source.tree.CompilationUnitTree;
import com.sun.source.tree.DoWhileLoopTree;
import com.sun.source.tree.EnhancedForLoopTree;
import com.sun.source.tree.ExpressionTree;
import com.sun.source.tree.ForLoopTree;
import com.sun.source.tree.IdentifierTree;
import com.sun.source.tree.InstanceOfTree;
import com.sun.source.tree.LambdaExpressionTree;
import com.sun.source.tree.LiteralTree;
import com.sun.source.tree.MemberReferenceTree;
import com.sun.source.tree.MemberSelectTree;
import com.sun.source.tree.MethodInvocationTree;
import com.sun.source.tree.MethodTree;
import com.sun.source.tree.NewArrayTree;
import com.sun.source.tree.NewClassTree;
import com.sun.source.tree.SynchronizedTree;
import com.sun.source.tree.ThrowTree;
import com.sun.source.tree.Tree;
import com.sun.source.tree.TryTree;
import com.sun.source.tree.TypeCastTree;
import com.sun.source.tree.VariableTree;
import com.sun.source.tree.WhileLoopTree;
import com.sun.source.util.JavacTask;
import com.sun.source.util.TreeScanner;
import com.sun.source.util.Trees;
import java.io.File;
import java.io.IOException;
import java.util.Arrays;
import java.util.HashSet;
import java.util.Map;
import java.util.Set;
import java.util.TreeMap;
import java.util.TreeSet;
import javax.lang.model.element.Modifier;
import javax.tools.JavaCompiler;
import javax.tools.StandardJavaFileManager;
import javax.tools.ToolProvider;

/**
 * The program keeps to the rules of LANGUAGE.md that can be seen in its source. Where a rule is about what the source
 * means, this is stricter: arrays are made in fields' initialisers alone, and every loop is a for with its own counter.
 * Rule 7 is tested by AnyArgumentsTest, the members shown (rule 1) by FaceTest.
 */
public final class LanguageTest extends TreeScanner<Void, Void> {
    private static final String PROGRAM = "src/main/java/RevisionStore.java";
    private static final Set<String> SIMPLE_TYPES = new HashSet<>(Arrays.asList(
        "int", "long", "short", "byte", "char", "boolean"));

    private final Map<String, Set<String>> calls = new TreeMap<>();
    private final Set<String> arrays = new HashSet<>();
    private final Set<String> constants = new HashSet<>();
    private final CompilationUnitTree unit;
    private final Trees trees;
    private String method = "";
    private int fields = 0;

    private LanguageTest(CompilationUnitTree unit, Trees trees) {
        this.unit = unit;
        this.trees = trees;
    }

    public static void main(String[] args) throws IOException {
        JavaCompiler compiler = ToolProvider.getSystemJavaCompiler();
        try (StandardJavaFileManager files = compiler.getStandardFileManager(null, null, null)) {
            JavacTask task = (JavacTask) compiler.getTask(null, files, null, null, null,
                files.getJavaFileObjects(new File(PROGRAM)));
            Trees trees = Trees.instance(task);
            for (CompilationUnitTree unit : task.parse()) {
                new LanguageTest(unit, trees).check();
            }
        }
        Run.end();
    }

    private void check() {
        rule(1, unit, unit.getPackage() == null && unit.getTypeDecls().size() == 1);
        rule(3, unit, unit.getImports().isEmpty());
        ClassTree type = (ClassTree) unit.getTypeDecls().get(0);
        rule(1, type, type.getKind() == Tree.Kind.CLASS && type.getSimpleName().contentEquals("RevisionStore"));
        for (Tree member : type.getMembers()) {
            collect(member);
        }
        for (Tree member : type.getMembers()) {
            method = "";
            scan(member, null);
        }
        rule(10, type, fields <= 40);
        for (String name : calls.keySet()) {
            rule(8, type, !reached(name).contains(name));
            rule(10, type, depth(name) <= 6);
        }
    }

    private void collect(Tree member) {
        if (member instanceof VariableTree) {
            VariableTree field = (VariableTree) member;
            if (field.getModifiers().getFlags().contains(Modifier.STATIC)) {
                constants.add(field.getName().toString());
                rule(5, field, field.getModifiers().getFlags().contains(Modifier.FINAL)
                    && Set.of("int", "long").contains(field.getType().toString()) && field.getInitializer() != null);
            } else {
                fields++;
            }
        } else if (member instanceof MethodTree) {
            String name = ((MethodTree) member).getName().toString();
            rule(1, member, calls.put(name, new TreeSet<>()) == null);
        } else {
            // Nested types (rule 1) and initialiser blocks (rule 5).
            rule(member instanceof BlockTree ? 5 : 1, member, false);
        }
    }

    private Set<String> reached(String from) {
        Set<String> reached = new TreeSet<>(calls.get(from));
        int before = -1;
        while (before != reached.size()) {
            before = reached.size();
            for (String name : reached.toArray(new String[0])) {
                reached.addAll(calls.getOrDefault(name, Set.of()));
            }
        }
        return reached;
    }

    private int depth(String from) {
        Set<String> level = Set.of(from);
        int depth = 0;
        while (!level.isEmpty() && depth < 100) {
            Set<String> next = new TreeSet<>();
            level.forEach(name -> next.addAll(calls.getOrDefault(name, Set.of())));
            level = next;
            depth++;
        }
        return depth;
    }

    @Override public Void visitMethod(MethodTree tree, Void none) {
        method = tree.getName().toString();
        boolean isPublic = tree.getModifiers().getFlags().contains(Modifier.PUBLIC);
        String answer = tree.getReturnType() == null ? "void" : tree.getReturnType().toString();
        rule(2, tree, SIMPLE_TYPES.contains(answer) || answer.equals("void"));
        rule(1, tree, isPublic || tree.getModifiers().getFlags().contains(Modifier.PRIVATE));
        rule(6, tree, tree.getThrows().isEmpty());
        rule(10, tree, tree.getParameters().size() <= 7);
        long first = line(trees.getSourcePositions().getStartPosition(unit, tree));
        long last = line(trees.getSourcePositions().getEndPosition(unit, tree));
        rule(10, tree, last - first < 60);
        // The scan leaves out the answer's type, which was looked at above.
        scan(tree.getParameters(), none);
        return scan(tree.getBody(), none);
    }

    @Override public Void visitVariable(VariableTree tree, Void none) {
        String type = tree.getType().toString();
        boolean isArray = type.endsWith("[]");
        rule(2, tree, SIMPLE_TYPES.contains(isArray ? type.substring(0, type.length() - 2) : type));
        rule(4, tree, !isArray || method.isEmpty() && tree.getInitializer() instanceof NewArrayTree);
        if (isArray) {
            arrays.add(tree.getName().toString());
        }
        return scan(tree.getInitializer(), none);
    }

    @Override public Void visitNewArray(NewArrayTree tree, Void none) {
        boolean isMadeByLength = tree.getDimensions().size() == 1 && tree.getInitializers() == null;
        rule(4, tree, method.isEmpty() && isMadeByLength && isLength(tree.getDimensions().get(0)));
        return super.visitNewArray(tree, none);
    }

    // That the length is 1 or more is not looked at: an array without a place would be of no use.
    private boolean isLength(ExpressionTree length) {
        return length.getKind() == Tree.Kind.INT_LITERAL || constants.contains(length.toString());
    }

    @Override public Void visitAssignment(AssignmentTree tree, Void none) {
        String target = tree.getVariable().toString();
        rule(4, tree, !arrays.contains(target) && !arrays.contains(target.replaceFirst("^this\\.", "")));
        return super.visitAssignment(tree, none);
    }

    @Override public Void visitIdentifier(IdentifierTree tree, Void none) {
        // A name with a great first letter and small ones behind it is a class.
        rule(3, tree, !tree.getName().toString().matches("[A-Z].*[a-z].*"));
        return super.visitIdentifier(tree, none);
    }

    @Override public Void visitMemberSelect(MemberSelectTree tree, Void none) {
        String whole = tree.getExpression().toString();
        rule(3, tree, whole.equals("this") || tree.getIdentifier().contentEquals("length"));
        return super.visitMemberSelect(tree, none);
    }

    @Override public Void visitMethodInvocation(MethodInvocationTree tree, Void none) {
        String name = tree.getMethodSelect().toString();
        rule(3, tree, calls.containsKey(name) || name.equals("super"));
        calls.get(method).add(name);
        for (ExpressionTree given : tree.getArguments()) {
            rule(10, given, !hasCall(given));
        }
        return super.visitMethodInvocation(tree, none);
    }

    private static boolean hasCall(Tree tree) {
        boolean[] has = {false};
        new TreeScanner<Void, Void>() {
            @Override public Void visitMethodInvocation(MethodInvocationTree inner, Void none) {
                has[0] = true;
                return null;
            }
        }.scan(tree, null);
        return has[0];
    }

    @Override public Void visitForLoop(ForLoopTree tree, Void none) {
        boolean counts = tree.getInitializer().size() == 1 && tree.getInitializer().get(0) instanceof VariableTree
            && tree.getCondition() != null && tree.getUpdate().size() == 1;
        rule(8, tree, counts);
        if (counts) {
            String counter = ((VariableTree) tree.getInitializer().get(0)).getName().toString();
            String condition = tree.getCondition().toString();
            String update = tree.getUpdate().get(0).toString();
            rule(8, tree, condition.matches(counter + " <=? [^|]*") && update.matches(counter + "\\+\\+;?")
                || condition.matches(counter + " >=? [^|]*") && update.matches(counter + "--;?"));
            rule(8, tree, !tree.getStatement().toString().matches("(?s).*\\b" + counter + "( [-+*/]?= |\\+\\+|--).*"));
        }
        return super.visitForLoop(tree, none);
    }

    @Override public Void visitLiteral(LiteralTree tree, Void none) {
        rule(2, tree, Set.of(Tree.Kind.INT_LITERAL, Tree.Kind.LONG_LITERAL, Tree.Kind.CHAR_LITERAL,
            Tree.Kind.BOOLEAN_LITERAL).contains(tree.getKind()));
        return super.visitLiteral(tree, none);
    }

    @Override public Void visitBinary(BinaryTree tree, Void none) {
        rule(4, tree, !arrays.contains(tree.getLeftOperand().toString())
            && !arrays.contains(tree.getRightOperand().toString()));
        // The class divides by nothing yet; what divides has to look at the divisor first (rule 7).
        rule(7, tree, tree.getKind() != Tree.Kind.DIVIDE && tree.getKind() != Tree.Kind.REMAINDER);
        return super.visitBinary(tree, none);
    }

    @Override public Void visitTypeCast(TypeCastTree tree, Void none) {
        rule(6, tree, SIMPLE_TYPES.contains(tree.getType().toString()));
        return super.visitTypeCast(tree, none);
    }

    @Override public Void visitWhileLoop(WhileLoopTree tree, Void none) {
        return never(8, tree);
    }

    @Override public Void visitDoWhileLoop(DoWhileLoopTree tree, Void none) {
        return never(8, tree);
    }

    @Override public Void visitEnhancedForLoop(EnhancedForLoopTree tree, Void none) {
        return never(8, tree);
    }

    @Override public Void visitNewClass(NewClassTree tree, Void none) {
        return never(4, tree);
    }

    @Override public Void visitThrow(ThrowTree tree, Void none) {
        return never(6, tree);
    }

    @Override public Void visitTry(TryTree tree, Void none) {
        return never(6, tree);
    }

    @Override public Void visitSynchronized(SynchronizedTree tree, Void none) {
        return never(6, tree);
    }

    @Override public Void visitAssert(AssertTree tree, Void none) {
        return never(6, tree);
    }

    @Override public Void visitInstanceOf(InstanceOfTree tree, Void none) {
        return never(6, tree);
    }

    @Override public Void visitLambdaExpression(LambdaExpressionTree tree, Void none) {
        return never(6, tree);
    }

    @Override public Void visitMemberReference(MemberReferenceTree tree, Void none) {
        return never(6, tree);
    }

    private Void never(int number, Tree tree) {
        rule(number, tree, false);
        return null;
    }

    private void rule(int number, Tree tree, boolean kept) {
        if (!kept) {
            long at = line(trees.getSourcePositions().getStartPosition(unit, tree));
            Run.wrong("line " + at + " is outside rule " + number, PROGRAM);
        }
    }

    private long line(long position) {
        return position < 0 ? 0 : unit.getLineMap().getLineNumber(position);
    }
}
