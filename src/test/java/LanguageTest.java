import com.sun.source.tree.AssignmentTree;
import com.sun.source.tree.BinaryTree;
import com.sun.source.tree.ClassTree;
import com.sun.source.tree.CompilationUnitTree;
import com.sun.source.tree.CompoundAssignmentTree;
import com.sun.source.tree.ExpressionTree;
import com.sun.source.tree.ForLoopTree;
import com.sun.source.tree.IdentifierTree;
import com.sun.source.tree.LiteralTree;
import com.sun.source.tree.MemberSelectTree;
import com.sun.source.tree.MethodInvocationTree;
import com.sun.source.tree.MethodTree;
import com.sun.source.tree.NewArrayTree;
import com.sun.source.tree.Tree;
import com.sun.source.tree.TypeCastTree;
import com.sun.source.tree.UnaryTree;
import com.sun.source.tree.VariableTree;
import com.sun.source.util.JavacTask;
import com.sun.source.util.SourcePositions;
import com.sun.source.util.TreeScanner;
import com.sun.source.util.Trees;
import java.io.File;
import java.io.IOException;
import java.util.EnumSet;
import java.util.HashMap;
import java.util.HashSet;
import java.util.List;
import java.util.Map;
import java.util.Set;
import java.util.TreeSet;
import javax.lang.model.element.Modifier;
import javax.tools.JavaCompiler;
import javax.tools.StandardJavaFileManager;
import javax.tools.ToolProvider;

/**
 * The rules of ../shared/LANGUAGE.md that can be seen in the text of the class, by the rule's number.
 * It is stricter than they are where the class needs less: it has no loop but 'for', and makes every
 * array in a field's initialiser.
 */
public final class LanguageTest {
    private static final String SOURCE = "src/main/java/CowContainer.java";
    private static final Set<String> NUMBERS = Set.of("int", "long", "short", "byte", "char", "boolean");
    private static final int MOST_PARAMETERS = 7;
    private static final int MOST_LINES = 60;
    private static final int MOST_DEEP = 6;
    private static final int MOST_FIELDS = 40;

    private static final EnumSet<Tree.Kind> NOT_USED = EnumSet.of(Tree.Kind.THROW, Tree.Kind.TRY, Tree.Kind.CATCH,
        Tree.Kind.SYNCHRONIZED, Tree.Kind.ASSERT, Tree.Kind.INSTANCE_OF, Tree.Kind.LAMBDA_EXPRESSION,
        Tree.Kind.MEMBER_REFERENCE, Tree.Kind.NEW_CLASS, Tree.Kind.NULL_LITERAL, Tree.Kind.STRING_LITERAL,
        Tree.Kind.FLOAT_LITERAL, Tree.Kind.DOUBLE_LITERAL, Tree.Kind.WHILE_LOOP, Tree.Kind.DO_WHILE_LOOP,
        Tree.Kind.ENHANCED_FOR_LOOP, Tree.Kind.PARAMETERIZED_TYPE, Tree.Kind.ANNOTATION);

    private static CompilationUnitTree unit;
    private static SourcePositions positions;
    private static final Map<String, Set<String>> calls = new HashMap<>();
    private static final Set<String> constants = new HashSet<>();
    private static final Set<String> arrays = new HashSet<>();

    public static void main(String[] args) throws IOException {
        ClassTree main = parsed();
        names(main);
        for (Tree member : main.getMembers()) {
            if (member instanceof VariableTree field) {
                field(field);
            } else if (member instanceof MethodTree method) {
                method(method);
            } else {
                Due.holds("rule 1 and 5: only fields and methods at " + line(member), false);
            }
        }
        fieldCount(main);
        depths();
        new Rules().scan(unit, null);
        Due.end();
    }

    private static ClassTree parsed() throws IOException {
        JavaCompiler compiler = ToolProvider.getSystemJavaCompiler();
        try (StandardJavaFileManager files = compiler.getStandardFileManager(null, null, null)) {
            JavacTask task = (JavacTask) compiler.getTask(null, files, null, List.of("-proc:none"), null,
                files.getJavaFileObjects(new File(SOURCE)));
            unit = task.parse().iterator().next();
            positions = Trees.instance(task).getSourcePositions();
        }
        Due.same("rule 1: classes in the file", unit.getTypeDecls().size(), 1);
        Due.holds("rule 1: no package line", unit.getPackageName() == null);
        Due.same("rule 3: imports", unit.getImports().size(), 0);
        return (ClassTree) unit.getTypeDecls().get(0);
    }

    private static void names(ClassTree main) {
        Set<String> open = new HashSet<>();
        Set<String> hidden = new HashSet<>();
        for (Tree member : main.getMembers()) {
            if (member instanceof VariableTree field) {
                Set<String> kind = isStatic(field) ? constants : isArray(field) ? arrays : new HashSet<>();
                kind.add(field.getName().toString());
            } else if (member instanceof MethodTree method) {
                boolean isPublic = method.getModifiers().getFlags().contains(Modifier.PUBLIC);
                (isPublic ? open : hidden).add(method.getName().toString());
                calls.put(method.getName().toString(), new TreeSet<>());
            }
        }
        hidden.retainAll(open);
        Due.holds("rule 1: no private method bears the name of a public one: " + hidden, hidden.isEmpty());
    }

    private static boolean isStatic(VariableTree field) {
        return field.getModifiers().getFlags().contains(Modifier.STATIC);
    }

    private static boolean isArray(VariableTree field) {
        return field.getType().toString().endsWith("[]");
    }

    private static void field(VariableTree field) {
        boolean isFinal = field.getModifiers().getFlags().contains(Modifier.FINAL);
        String type = field.getType().toString();
        if (isStatic(field)) {
            Due.holds("rule 5: " + field.getName() + " is a constant of int or long", isFinal
                && (type.equals("int") || type.equals("long")) && new Constant().only(field.getInitializer()));
        } else if (isArray(field)) {
            Due.holds("rule 4: " + field.getName() + " is made once, by its length", isFinal
                && field.getInitializer() instanceof NewArrayTree made && made.getInitializers() == null
                && made.getDimensions().size() == 1 && new Constant().only(made.getDimensions().get(0)));
        }
    }

    private static void fieldCount(ClassTree main) {
        long count = main.getMembers().stream().filter(member -> member instanceof VariableTree field
            && !isStatic(field)).count();
        Due.holds("rule 10: " + count + " fields are few", count <= MOST_FIELDS);
    }

    private static void method(MethodTree method) {
        String name = method.getName().toString();
        Tree answer = method.getReturnType();
        boolean number = answer == null || answer.toString().equals("void") || NUMBERS.contains(answer.toString());
        Due.holds("rule 2 and 4: " + name + " answers a number or nothing", number);
        Due.holds("rule 10: the parameters of " + name, method.getParameters().size() <= MOST_PARAMETERS);
        long last = unit.getLineMap().getLineNumber(positions.getEndPosition(unit, method));
        Due.holds("rule 10: " + name + " is short", last - line(method) < MOST_LINES);
        new TreeScanner<Void, Void>() {
            @Override
            public Void visitMethodInvocation(MethodInvocationTree call, Void none) {
                calls.get(name).add(call.getMethodSelect().toString());
                return super.visitMethodInvocation(call, none);
            }
        }.scan(method.getBody(), null);
    }

    /** Peels off the methods that call nothing that is left: what never peels off calls itself. */
    private static void depths() {
        Map<String, Set<String>> left = new HashMap<>(calls);
        int depth = 0;
        Set<String> leaves;
        do {
            leaves = new HashSet<>();
            for (Map.Entry<String, Set<String>> one : left.entrySet()) {
                if (one.getValue().stream().noneMatch(left::containsKey)) {
                    leaves.add(one.getKey());
                }
            }
            left.keySet().removeAll(leaves);
            depth++;
        } while (!leaves.isEmpty() && !left.isEmpty());
        Due.holds("rule 8: no recursion among " + left.keySet(), left.isEmpty());
        Due.holds("rule 10: calls go " + depth + " deep", depth <= MOST_DEEP);
    }

    private static long line(Tree tree) {
        return unit.getLineMap().getLineNumber(positions.getStartPosition(unit, tree));
    }

    /** An expression over number literals and other constants. */
    private static final class Constant extends TreeScanner<Void, Void> {
        private boolean constant = true;

        boolean only(ExpressionTree value) {
            scan(value, null);
            return constant && value != null;
        }

        @Override
        public Void scan(Tree tree, Void none) {
            boolean number = tree instanceof LiteralTree || tree instanceof BinaryTree
                || tree != null && tree.getKind() == Tree.Kind.UNARY_MINUS
                || tree instanceof IdentifierTree name && constants.contains(name.getName().toString());
            constant &= tree == null || number;
            return super.scan(tree, none);
        }
    }

    private static final class Changed extends TreeScanner<Void, Void> {
        private final Set<String> changed = new HashSet<>();

        boolean none(String name, Tree body) {
            scan(body, null);
            return !changed.contains(name);
        }

        @Override
        public Void visitAssignment(AssignmentTree assignment, Void none) {
            changed.add(assignment.getVariable().toString());
            return super.visitAssignment(assignment, none);
        }

        @Override
        public Void visitCompoundAssignment(CompoundAssignmentTree assignment, Void none) {
            changed.add(assignment.getVariable().toString());
            return super.visitCompoundAssignment(assignment, none);
        }

        @Override
        public Void visitUnary(UnaryTree unary, Void none) {
            // A minus before a name leaves it as it is, but the class does not need one there.
            changed.add(unary.getExpression().toString());
            return super.visitUnary(unary, none);
        }
    }

    private static final class Rules extends TreeScanner<Void, Void> {
        private boolean inArguments = false;
        private boolean inMethod = false;

        @Override
        public Void scan(Tree tree, Void none) {
            if (tree != null) {
                Due.holds("rule 2, 4, 6 or 8: no " + tree.getKind() + " at line " + line(tree),
                    !NOT_USED.contains(tree.getKind()));
            }
            return super.scan(tree, none);
        }

        @Override
        public Void visitMethod(MethodTree method, Void none) {
            inMethod = true;
            super.visitMethod(method, none);
            inMethod = false;
            return null;
        }

        @Override
        public Void visitVariable(VariableTree variable, Void none) {
            String type = variable.getType().toString();
            String element = type.endsWith("[]") ? type.substring(0, type.length() - 2) : type;
            Due.holds("rule 2: the type " + type + " of " + variable.getName(), NUMBERS.contains(element));
            return super.visitVariable(variable, none);
        }

        @Override
        public Void visitNewArray(NewArrayTree made, Void none) {
            Due.holds("rule 4: no array is made in a method, line " + line(made), !inMethod);
            return super.visitNewArray(made, none);
        }

        @Override
        public Void visitMemberSelect(MemberSelectTree select, Void none) {
            Due.holds("rule 3: nothing is taken from another class: " + select, false);
            return super.visitMemberSelect(select, none);
        }

        @Override
        public Void visitTypeCast(TypeCastTree cast, Void none) {
            Due.holds("rule 6: the cast to " + cast.getType(), NUMBERS.contains(cast.getType().toString()));
            return super.visitTypeCast(cast, none);
        }

        @Override
        public Void visitAssignment(AssignmentTree assignment, Void none) {
            String name = assignment.getVariable().toString();
            Due.holds("rule 4: the array " + name + " stays", !arrays.contains(name));
            return super.visitAssignment(assignment, none);
        }

        @Override
        public Void visitBinary(BinaryTree binary, Void none) {
            Due.holds("rule 4: no array is compared: " + binary, !arrays.contains(binary.getLeftOperand().toString())
                && !arrays.contains(binary.getRightOperand().toString()));
            return super.visitBinary(binary, none);
        }

        @Override
        public Void visitForLoop(ForLoopTree loop, Void none) {
            String counter = loop.getInitializer().size() == 1
                && loop.getInitializer().get(0) instanceof VariableTree variable ? variable.getName().toString() : "";
            Due.holds("rule 8: the loop at line " + line(loop) + " counts up to a bound", !counter.isEmpty()
                && loop.getUpdate().size() == 1
                && loop.getUpdate().get(0).getExpression().toString().equals(counter + "++")
                && loop.getCondition() instanceof BinaryTree bound
                && (bound.getKind() == Tree.Kind.LESS_THAN || bound.getKind() == Tree.Kind.LESS_THAN_EQUAL)
                && bound.getLeftOperand().toString().equals(counter));
            Due.holds("rule 8: the loop at line " + line(loop) + " leaves its counter alone",
                new Changed().none(counter, loop.getStatement()));
            return super.visitForLoop(loop, none);
        }

        @Override
        public Void visitMethodInvocation(MethodInvocationTree call, Void none) {
            String name = call.getMethodSelect().toString();
            Due.holds("rule 3: " + name + " is a method of the class", calls.containsKey(name));
            Due.holds("rule 10: no call inside the arguments of another: " + call, !inArguments);
            inArguments = true;
            super.visitMethodInvocation(call, none);
            inArguments = false;
            return null;
        }
    }
}
