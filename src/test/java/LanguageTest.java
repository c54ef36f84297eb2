import com.sun.source.tree.ArrayTypeTree;
import com.sun.source.tree.AssignmentTree;
import com.sun.source.tree.BinaryTree;
import com.sun.source.tree.ClassTree;
import com.sun.source.tree.CompilationUnitTree;
import com.sun.source.tree.CompoundAssignmentTree;
import com.sun.source.tree.ExpressionTree;
import com.sun.source.tree.ForLoopTree;
import com.sun.source.tree.IdentifierTree;
import com.sun.source.tree.MethodInvocationTree;
import com.sun.source.tree.MethodTree;
import com.sun.source.tree.NewArrayTree;
import com.sun.source.tree.PrimitiveTypeTree;
import com.sun.source.tree.Tree;
import com.sun.source.tree.Tree.Kind;
import com.sun.source.tree.TypeCastTree;
import com.sun.source.tree.UnaryTree;
import com.sun.source.tree.VariableTree;
import com.sun.source.util.JavacTask;
import com.sun.source.util.SourcePositions;
import com.sun.source.util.TreeScanner;
import com.sun.source.util.Trees;
import java.io.IOException;
import java.nio.file.Path;
import java.util.EnumSet;
import java.util.List;
import java.util.Map;
import java.util.Set;
import java.util.TreeMap;
import java.util.TreeSet;
import javax.lang.model.element.Modifier;
import javax.lang.model.type.TypeKind;
import javax.tools.JavaCompiler;
import javax.tools.StandardJavaFileManager;
import javax.tools.ToolProvider;

/**
 * The rules of LANGUAGE.md that can be read off the program's text. FaceTest has the rest of rule 1; rule 7, no
 * call ever throws, is what the tests of wrong arguments are for.
 */
public final class LanguageTest {
    private static final Path SOURCE = Path.of("src/main/java/LockOrders.java");
    private static final int MOST_PARAMETERS = 7;
    private static final int MOST_LINES = 60;
    private static final int MOST_DEPTH = 6;
    private static final int MOST_FIELDS = 40;

    /** Rules 2, 3, 4 and 6, and rule 8 in its plainest form: no loop but a "for" that counts. */
    private static final Set<Kind> RULED_OUT = EnumSet.of(
            Kind.STRING_LITERAL, Kind.FLOAT_LITERAL, Kind.DOUBLE_LITERAL, Kind.NULL_LITERAL, Kind.IMPORT,
            Kind.MEMBER_SELECT, Kind.PARAMETERIZED_TYPE, Kind.ANNOTATION, Kind.NEW_CLASS, Kind.THROW, Kind.TRY,
            Kind.CATCH, Kind.SYNCHRONIZED, Kind.ASSERT, Kind.INSTANCE_OF, Kind.LAMBDA_EXPRESSION,
            Kind.MEMBER_REFERENCE, Kind.WHILE_LOOP, Kind.DO_WHILE_LOOP, Kind.ENHANCED_FOR_LOOP);
    private static final Set<TypeKind> NUMBERS = EnumSet.of(
            TypeKind.INT, TypeKind.LONG, TypeKind.SHORT, TypeKind.BYTE, TypeKind.CHAR, TypeKind.BOOLEAN);

    private final Check check = new Check();
    private final Map<String, MethodTree> methods = new TreeMap<>();
    private final Map<String, Set<String>> calls = new TreeMap<>();
    private final Set<String> constants = new TreeSet<>();
    private CompilationUnitTree unit;
    private SourcePositions positions;

    public static void main(String[] args) throws IOException {
        LanguageTest test = new LanguageTest();
        test.read();
        test.check.end();
    }

    private void read() throws IOException {
        JavaCompiler compiler = ToolProvider.getSystemJavaCompiler();
        try (StandardJavaFileManager files = compiler.getStandardFileManager(null, null, null)) {
            JavacTask task = (JavacTask) compiler.getTask(
                    null, files, null, null, null, files.getJavaFileObjects(SOURCE));
            unit = task.parse().iterator().next();
            positions = Trees.instance(task).getSourcePositions();
            check.dueTrue("no package", unit.getPackage() == null);
            check.due("classes of the file", unit.getTypeDecls().size(), 1);
            ruledOutKinds();
            members((ClassTree) unit.getTypeDecls().get(0));
        }
    }

    private void ruledOutKinds() {
        new TreeScanner<Void, Void>() {
            @Override
            public Void scan(Tree tree, Void nothing) {
                if (tree != null) {
                    check.dueTrue(where(tree) + ": no " + tree.getKind(), !RULED_OUT.contains(tree.getKind()));
                }
                return super.scan(tree, nothing);
            }

            @Override
            public Void visitTypeCast(TypeCastTree cast, Void nothing) {
                check.dueTrue(where(cast) + ": a cast to a number", isNumber(cast.getType()));
                return super.visitTypeCast(cast, nothing);
            }

            @Override
            public Void visitVariable(VariableTree variable, Void nothing) {
                check.dueTrue(where(variable) + ": " + variable.getName() + " is a number or an array of numbers",
                        isNumber(variable.getType()) || isArray(variable.getType()));
                return super.visitVariable(variable, nothing);
            }

            @Override
            public Void visitForLoop(ForLoopTree loop, Void nothing) {
                check.dueTrue(where(loop) + ": a loop that counts up to a bound", countsUp(loop));
                return super.visitForLoop(loop, nothing);
            }
        }.scan(unit, null);
    }

    /** for (int n = ..; n < bound; n++), or <=, where the body leaves n alone and the bound is a name or a literal. */
    private static boolean countsUp(ForLoopTree loop) {
        if (!(loop.getCondition() instanceof BinaryTree condition) || loop.getUpdate().size() != 1
                || !(loop.getUpdate().get(0).getExpression() instanceof UnaryTree update)) {
            return false;
        }
        Tree bound = condition.getRightOperand();
        String counter = condition.getLeftOperand().toString();
        return (condition.getKind() == Kind.LESS_THAN || condition.getKind() == Kind.LESS_THAN_EQUAL)
                && (bound.getKind() == Kind.IDENTIFIER || bound.getKind() == Kind.INT_LITERAL)
                && update.getKind() == Kind.POSTFIX_INCREMENT && update.getExpression().toString().equals(counter)
                && !changedIn(loop.getStatement()).contains(counter)
                && !changedIn(loop.getStatement()).contains(bound.toString());
    }

    private static Set<String> changedIn(Tree body) {
        Set<String> names = new TreeSet<>();
        new TreeScanner<Void, Void>() {
            @Override
            public Void visitAssignment(AssignmentTree tree, Void nothing) {
                names.add(tree.getVariable().toString());
                return super.visitAssignment(tree, nothing);
            }

            @Override
            public Void visitCompoundAssignment(CompoundAssignmentTree tree, Void nothing) {
                names.add(tree.getVariable().toString());
                return super.visitCompoundAssignment(tree, nothing);
            }

            @Override
            public Void visitUnary(UnaryTree tree, Void nothing) {
                names.add(tree.getExpression().toString());
                return super.visitUnary(tree, nothing);
            }
        }.scan(body, null);
        return names;
    }

    private void members(ClassTree program) {
        int fields = 0;
        for (Tree member : program.getMembers()) {
            if (member instanceof VariableTree field) {
                fields += field.getModifiers().getFlags().contains(Modifier.STATIC) ? 0 : 1;
                field(field);
            } else if (member instanceof MethodTree method) {
                // LANGUAGE.md asks this of public names alone, but calls are followed by name here.
                check.dueTrue(where(method) + ": " + method.getName() + " bears a name of its own",
                        methods.put(method.getName().toString(), method) == null);
            } else {
                check.dueTrue(where(member) + ": a field or a method", false);
            }
        }
        check.dueTrue("fields beside the constants: " + fields, fields <= MOST_FIELDS);
        for (String name : methods.keySet()) {
            method(name, methods.get(name));
        }
        for (String name : methods.keySet()) {
            check.dueTrue("calls from " + name + " on are no more than six deep, and none comes back",
                    depth(name, MOST_DEPTH + 1) <= MOST_DEPTH);
        }
    }

    /** Constants stand before the arrays whose lengths they are. */
    private void field(VariableTree field) {
        Set<Modifier> flags = field.getModifiers().getFlags();
        String what = where(field) + ": " + field.getName();
        if (flags.contains(Modifier.STATIC)) {
            String type = field.getType().toString();
            check.dueTrue(what + " is a constant", flags.contains(Modifier.FINAL) && field.getInitializer() != null
                    && (type.equals("int") || type.equals("long")));
            constants.add(field.getName().toString());
        } else if (isArray(field.getType())) {
            check.dueTrue(what + " is made once, here", flags.contains(Modifier.FINAL)
                    && field.getInitializer() instanceof NewArrayTree made && hasFixedLength(made));
        }
    }

    private boolean hasFixedLength(NewArrayTree made) {
        if (made.getInitializers() != null || made.getDimensions().size() != 1) {
            return false;
        }
        ExpressionTree length = made.getDimensions().get(0);
        return length.getKind() == Kind.INT_LITERAL
                || length instanceof IdentifierTree name && constants.contains(name.getName().toString());
    }

    private void method(String name, MethodTree method) {
        String what = where(method) + ": " + name;
        check.dueTrue(what + " has at most seven parameters", method.getParameters().size() <= MOST_PARAMETERS);
        check.dueTrue(what + " is short", lastLine(method) - line(method) < MOST_LINES);
        Tree type = method.getReturnType();
        check.dueTrue(what + " answers a number or nothing", type == null || type.toString().equals("void")
                || isNumber(type));
        Set<String> called = new TreeSet<>();
        new TreeScanner<Void, Boolean>() {
            @Override
            public Void visitMethodInvocation(MethodInvocationTree call, Boolean insideArguments) {
                String callee = call.getMethodSelect().toString();
                check.dueTrue(where(call) + ": " + callee + " is a method of the class", methods.containsKey(callee));
                check.dueTrue(where(call) + ": " + callee + " is called outside of arguments", !insideArguments);
                called.add(callee);
                for (ExpressionTree argument : call.getArguments()) {
                    scan(argument, true);
                }
                return null;
            }

            @Override
            public Void visitNewArray(NewArrayTree made, Boolean insideArguments) {
                check.dueTrue(where(made) + ": " + name + " makes no array", false);
                return null;
            }
        }.scan(method.getBody(), false);
        calls.put(name, called);
    }

    /** How deep calls go; a ring of calls goes on until the limit stops it. */
    private int depth(String name, int limit) {
        int deepest = 0;
        for (String callee : limit == 1 ? List.<String>of() : calls.getOrDefault(name, Set.of())) {
            deepest = Math.max(deepest, depth(callee, limit - 1));
        }
        return 1 + deepest;
    }

    private static boolean isNumber(Tree type) {
        return type instanceof PrimitiveTypeTree primitive && NUMBERS.contains(primitive.getPrimitiveTypeKind());
    }

    private static boolean isArray(Tree type) {
        return type instanceof ArrayTypeTree array && isNumber(array.getType());
    }

    private String where(Tree tree) {
        return "line " + line(tree);
    }

    private long line(Tree tree) {
        return unit.getLineMap().getLineNumber(Math.max(0, positions.getStartPosition(unit, tree)));
    }

    private long lastLine(Tree tree) {
        return unit.getLineMap().getLineNumber(Math.max(0, positions.getEndPosition(unit, tree)));
    }
}
