import com.sun.source.tree.AssertTree;
import com.sun.source.tree.AssignmentTree;
import com.sun.source.tree.BinaryTree;
import com.sun.source.tree.BlockTree;
import com.sun.source.tree.ClassTree;
import com.sun.source.tree.CompilationUnitTree;
import com.sun.source.tree.CompoundAssignmentTree;
import com.sun.source.tree.DoWhileLoopTree;
import com.sun.source.tree.ExpressionTree;
import com.sun.source.tree.ForLoopTree;
import com.sun.source.tree.IdentifierTree;
import com.sun.source.tree.InstanceOfTree;
import com.sun.source.tree.LambdaExpressionTree;
import com.sun.source.tree.LiteralTree;
import com.sun.source.tree.MemberReferenceTree;
import com.sun.source.tree.MemberSelectTree;
import com.sun.source.tree.MethodInvocationTree;
import com.sun.source.tree.MethodTree;
import com.sun.source.tree.NewArrayTree;
import com.sun.source.tree.NewClassTree;
import com.sun.source.tree.ParenthesizedTree;
import com.sun.source.tree.SynchronizedTree;
import com.sun.source.tree.ThrowTree;
import com.sun.source.tree.Tree;
import com.sun.source.tree.TryTree;
import com.sun.source.tree.TypeCastTree;
import com.sun.source.tree.UnaryTree;
import com.sun.source.tree.VariableTree;
import com.sun.source.tree.WhileLoopTree;
import com.sun.source.util.JavacTask;
import com.sun.source.util.SourcePositions;
import com.sun.source.util.TreePath;
import com.sun.source.util.TreePathScanner;
import com.sun.source.util.TreeScanner;
import com.sun.source.util.Trees;
import java.nio.file.Files;
import java.nio.file.Path;
import java.util.Collections;
import java.util.HashSet;
import java.util.Map;
import java.util.Set;
import java.util.TreeMap;
import java.util.TreeSet;
import javax.lang.model.element.Modifier;
import javax.tools.JavaCompiler;
import javax.tools.StandardJavaFileManager;
import javax.tools.ToolProvider;

/**
 * Holds the program's source against the rules of LANGUAGE.md as far as its syntax shows them. A loop must have its
 * bound in its condition; that the counter moves towards it is left to the reader. Rule 7 (no call throws or fails to
 * end) can't be seen here: the other tests call the class with arguments from both ends of int instead.
 */
public final class PrimeDeskLanguageTest {
    private static final Path SOURCE = Path.of("src", "main", "java", "PrimeDesk.java");
    private static final String NUMBER_TYPE = "(int|long|short|byte|char|boolean)";
    private static final int MOST_PARAMETERS = 7;
    private static final int MOST_LINES = 60;
    private static final int MOST_DEEP = 6;
    private static final int MOST_FIELDS = 40;

    private static final Set<Tree.Kind> COMPARISONS = Set.of(
        Tree.Kind.LESS_THAN, Tree.Kind.LESS_THAN_EQUAL, Tree.Kind.GREATER_THAN, Tree.Kind.GREATER_THAN_EQUAL);
    private static final Set<Tree.Kind> STEPS = Set.of(
        Tree.Kind.POSTFIX_INCREMENT, Tree.Kind.POSTFIX_DECREMENT,
        Tree.Kind.PREFIX_INCREMENT, Tree.Kind.PREFIX_DECREMENT);
    private static final Set<Tree.Kind> LOOPS_AND_CONDITIONS = Set.of(
        Tree.Kind.FOR_LOOP, Tree.Kind.ENHANCED_FOR_LOOP, Tree.Kind.WHILE_LOOP, Tree.Kind.DO_WHILE_LOOP,
        Tree.Kind.IF, Tree.Kind.SWITCH, Tree.Kind.SWITCH_EXPRESSION, Tree.Kind.CONDITIONAL_EXPRESSION,
        Tree.Kind.CONDITIONAL_AND, Tree.Kind.CONDITIONAL_OR);

    private static CompilationUnitTree unit;
    private static SourcePositions positions;
    private static final Set<String> methodNames = new HashSet<>();
    private static final Map<String, Set<String>> calls = new TreeMap<>();
    private static int wrong = 0;

    public static void main(String[] args) throws Exception {
        if (!Files.isRegularFile(SOURCE)) {
            System.out.println("no " + SOURCE + " here: start this test from the project's directory");
            System.exit(1);
        }
        parse();
        theFile();
        ClassTree type = (ClassTree) unit.getTypeDecls().get(0);
        members(type);
        new Rules().scan(unit, null);
        depths();
        System.out.println(wrong == 0 ? "the rules are kept" : wrong + " times a rule is not kept");
        if (wrong != 0) {
            System.exit(1);
        }
    }

    private static void parse() throws Exception {
        JavaCompiler compiler = ToolProvider.getSystemJavaCompiler();
        StandardJavaFileManager files = compiler.getStandardFileManager(null, null, null);
        JavacTask task = (JavacTask) compiler.getTask(null, files, null, null, null, files.getJavaFileObjects(SOURCE));
        unit = task.parse().iterator().next();
        positions = Trees.instance(task).getSourcePositions();
    }

    private static void rule(int number, String what, Tree where, boolean kept) {
        if (!kept) {
            wrong++;
            System.out.println("rule " + number + ", line " + firstLine(where) + ": " + what);
        }
    }

    private static long firstLine(Tree tree) {
        return unit.getLineMap().getLineNumber(positions.getStartPosition(unit, tree));
    }

    private static long lines(Tree tree) {
        return unit.getLineMap().getLineNumber(positions.getEndPosition(unit, tree)) - firstLine(tree) + 1;
    }

    private static void theFile() {
        rule(1, "a package line", unit, unit.getPackage() == null);
        rule(1, "not one class alone", unit, unit.getTypeDecls().size() == 1);
        rule(3, "an import", unit, unit.getImports().isEmpty());
    }

    private static void members(ClassTree type) {
        int fields = 0;
        for (Tree member : type.getMembers()) {
            if (member instanceof MethodTree method) {
                methodNames.add(method.getName().toString());
            } else if (member instanceof VariableTree field) {
                boolean isStatic = field.getModifiers().getFlags().contains(Modifier.STATIC);
                fields += isStatic ? 0 : 1;
                rule(5, "a static field that is no constant", field, !isStatic || isConstant(field));
            } else {
                rule(1, "a nested type", member, !(member instanceof ClassTree));
                rule(5, "a static initialiser", member, !(member instanceof BlockTree block) || !block.isStatic());
            }
        }
        rule(10, "more than " + MOST_FIELDS + " fields", type, fields <= MOST_FIELDS);
    }

    private static boolean isConstant(VariableTree field) {
        return field.getModifiers().getFlags().contains(Modifier.FINAL)
            && field.getInitializer() != null
            && field.getType().toString().matches("int|long");
    }

    /** Takes off the methods that call none of those left, a layer at a time: what stays calls itself. */
    private static void depths() {
        Set<String> left = new TreeSet<>(calls.keySet());
        int deep = 0;
        boolean shrinks = true;
        while (shrinks) {
            Set<String> layer = new TreeSet<>();
            for (String method : left) {
                if (calls.get(method).stream().noneMatch(left::contains)) {
                    layer.add(method);
                }
            }
            left.removeAll(layer);
            shrinks = !layer.isEmpty();
            deep += shrinks ? 1 : 0;
        }
        rule(8, "recursion through " + left, unit, left.isEmpty());
        rule(10, "calls go " + deep + " deep", unit, deep <= MOST_DEEP);
    }

    /** Walks over the whole source. */
    private static final class Rules extends TreePathScanner<Void, Void> {
        private String method = "";
        private String key = "";
        private int insideArguments = 0;

        @Override
        public Void visitMethod(MethodTree tree, Void none) {
            method = tree.getName().toString();
            key = key(method, tree.getParameters().size());
            calls.putIfAbsent(key, new TreeSet<>());
            rule(10, method + " takes too many parameters", tree, tree.getParameters().size() <= MOST_PARAMETERS);
            rule(10, method + " has " + lines(tree) + " lines", tree, lines(tree) <= MOST_LINES);
            Tree answer = tree.getReturnType();
            rule(2, method + " answers another type", tree,
                answer == null || answer.toString().matches(NUMBER_TYPE + "|void"));
            super.visitMethod(tree, none);
            method = "";
            return null;
        }

        @Override
        public Void visitVariable(VariableTree tree, Void none) {
            // Without a written type (var) the value tells it, and the other checks see the value.
            rule(2, tree.getName() + " has another type", tree,
                tree.getType() == null || tree.getType().toString().matches(NUMBER_TYPE + "(\\[\\])?"));
            return super.visitVariable(tree, none);
        }

        @Override
        public Void visitLiteral(LiteralTree tree, Void none) {
            rule(2, "a literal of another type: " + tree, tree,
                !Set.of(Tree.Kind.STRING_LITERAL, Tree.Kind.FLOAT_LITERAL, Tree.Kind.DOUBLE_LITERAL)
                    .contains(tree.getKind()));
            rule(4, "null", tree, tree.getKind() != Tree.Kind.NULL_LITERAL);
            return super.visitLiteral(tree, none);
        }

        @Override
        public Void visitMemberSelect(MemberSelectTree tree, Void none) {
            String of = tree.getExpression().toString();
            rule(3, "another class or object is used: " + tree, tree,
                of.equals("this") || of.equals("PrimeDesk") || tree.getIdentifier().contentEquals("length"));
            return super.visitMemberSelect(tree, none);
        }

        @Override
        public Void visitMethodInvocation(MethodInvocationTree tree, Void none) {
            String called = lastName(tree.getMethodSelect());
            // A constructor may write out the call that every constructor makes: no method of Object is called by it.
            if (!called.equals("super")) {
                rule(3, called + " is not a method of the class", tree, methodNames.contains(called));
                rule(10, called + " is called inside the arguments of a call", tree, insideArguments == 0);
                if (!method.isEmpty()) {
                    calls.get(key).add(key(called, tree.getArguments().size()));
                }
            }
            scan(tree.getMethodSelect(), none);
            insideArguments++;
            scan(tree.getArguments(), none);
            insideArguments--;
            return null;
        }

        @Override
        public Void visitNewClass(NewClassTree tree, Void none) {
            rule(4, "an object is made", tree, false);
            return super.visitNewClass(tree, none);
        }

        @Override
        public Void visitNewArray(NewArrayTree tree, Void none) {
            rule(4, "a method makes an array", tree, method.isEmpty() || method.equals("<init>"));
            rule(2, "an array with more than one dimension", tree, tree.getDimensions().size() <= 1);
            for (TreePath path = getCurrentPath(); path != null; path = path.getParentPath()) {
                rule(4, "an array is made in a loop or behind a condition", tree,
                    !LOOPS_AND_CONDITIONS.contains(path.getLeaf().getKind()));
            }
            return super.visitNewArray(tree, none);
        }

        @Override
        public Void visitThrow(ThrowTree tree, Void none) {
            return ruledOut("throw", tree);
        }

        @Override
        public Void visitTry(TryTree tree, Void none) {
            return ruledOut("try", tree);
        }

        @Override
        public Void visitSynchronized(SynchronizedTree tree, Void none) {
            return ruledOut("synchronized", tree);
        }

        @Override
        public Void visitAssert(AssertTree tree, Void none) {
            return ruledOut("assert", tree);
        }

        @Override
        public Void visitInstanceOf(InstanceOfTree tree, Void none) {
            return ruledOut("instanceof", tree);
        }

        @Override
        public Void visitLambdaExpression(LambdaExpressionTree tree, Void none) {
            return ruledOut("a lambda", tree);
        }

        @Override
        public Void visitMemberReference(MemberReferenceTree tree, Void none) {
            return ruledOut("a method reference", tree);
        }

        private Void ruledOut(String what, Tree tree) {
            rule(6, what, tree, false);
            return null;
        }

        @Override
        public Void visitTypeCast(TypeCastTree tree, Void none) {
            rule(6, "a cast of a reference", tree, tree.getType().toString().matches(NUMBER_TYPE));
            return super.visitTypeCast(tree, none);
        }

        @Override
        public Void visitForLoop(ForLoopTree tree, Void none) {
            hasAnEnd(tree, tree.getCondition());
            return super.visitForLoop(tree, none);
        }

        @Override
        public Void visitWhileLoop(WhileLoopTree tree, Void none) {
            hasAnEnd(tree, tree.getCondition());
            return super.visitWhileLoop(tree, none);
        }

        @Override
        public Void visitDoWhileLoop(DoWhileLoopTree tree, Void none) {
            hasAnEnd(tree, tree.getCondition());
            return super.visitDoWhileLoop(tree, none);
        }

        private static void hasAnEnd(Tree loop, ExpressionTree condition) {
            rule(8, "no counter against a bound in the loop's condition", loop,
                condition != null && comparesOneOf(changedIn(loop), condition));
        }
    }

    /** Methods of one name with different parameters are different ones. */
    private static String key(String name, int parameters) {
        return name + "/" + parameters;
    }

    private static String lastName(ExpressionTree select) {
        String text = select.toString();
        return text.substring(text.lastIndexOf('.') + 1);
    }

    /** The names of the variables that the loop itself steps or assigns to. */
    private static Set<String> changedIn(Tree loop) {
        Set<String> names = new HashSet<>();
        new TreeScanner<Void, Void>() {
            @Override
            public Void visitUnary(UnaryTree tree, Void none) {
                if (STEPS.contains(tree.getKind())) {
                    names.add(tree.getExpression().toString());
                }
                return super.visitUnary(tree, none);
            }

            @Override
            public Void visitAssignment(AssignmentTree tree, Void none) {
                names.add(tree.getVariable().toString());
                return super.visitAssignment(tree, none);
            }

            @Override
            public Void visitCompoundAssignment(CompoundAssignmentTree tree, Void none) {
                names.add(tree.getVariable().toString());
                return super.visitCompoundAssignment(tree, none);
            }
        }.scan(loop, null);
        return names;
    }

    /** Whether one of the names stands in a comparison that must hold for the loop to go on. */
    private static boolean comparesOneOf(Set<String> names, ExpressionTree condition) {
        if (condition instanceof ParenthesizedTree inner) {
            return comparesOneOf(names, inner.getExpression());
        }
        if (!(condition instanceof BinaryTree both)) {
            return false;
        }
        if (condition.getKind() == Tree.Kind.CONDITIONAL_AND) {
            return comparesOneOf(names, both.getLeftOperand()) || comparesOneOf(names, both.getRightOperand());
        }
        return COMPARISONS.contains(condition.getKind()) && !Collections.disjoint(names, namesIn(condition));
    }

    private static Set<String> namesIn(Tree tree) {
        Set<String> names = new HashSet<>();
        new TreeScanner<Void, Void>() {
            @Override
            public Void visitIdentifier(IdentifierTree name, Void none) {
                names.add(name.getName().toString());
                return null;
            }
        }.scan(tree, null);
        return names;
    }
}
