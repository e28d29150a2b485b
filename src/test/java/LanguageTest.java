import com.sun.source.tree.ArrayTypeTree;
import com.sun.source.tree.AssignmentTree;
import com.sun.source.tree.BinaryTree;
import com.sun.source.tree.ClassTree;
import com.sun.source.tree.CompilationUnitTree;
import com.sun.source.tree.CompoundAssignmentTree;
import com.sun.source.tree.ExpressionTree;
import com.sun.source.tree.ForLoopTree;
import com.sun.source.tree.IdentifierTree;
import com.sun.source.tree.MethodInvocationTree;
import com.sun.source.tree.MethodTree;
import com.sun.source.tree.NewArrayTree;
import com.sun.source.tree.PrimitiveTypeTree;
import com.sun.source.tree.Tree;
import com.sun.source.tree.Tree.Kind;
import com.sun.source.tree.UnaryTree;
import com.sun.source.tree.VariableTree;
import com.sun.source.util.JavacTask;
import com.sun.source.util.SourcePositions;
import com.sun.source.util.TreeScanner;
import com.sun.source.util.Trees;
import java.io.IOException;
import java.nio.file.Path;
import java.util.ArrayList;
import java.util.EnumSet;
import java.util.List;
import java.util.Map;
import java.util.Set;
import java.util.TreeMap;
import java.util.TreeSet;
import javax.lang.model.element.Modifier;
import javax.lang.model.type.TypeKind;
import javax.tools.JavaCompiler;
import javax.tools.StandardJavaFileManager;
import javax.tools.ToolProvider;

// The form of the source: LANGUAGE.md, rules 2 to 6, 8 and 10; rule 1 is in
// FaceTest. Where a rule leaves more than the class needs (while, casts, arrays
// as parameters) the test is the narrower one, for it is easier to be sure of.
// It is run from the project's folder.
public final class LanguageTest {
    private static final Path SOURCE = Path.of("src", "main", "java", "PeerRoutes.java");
    private static final int MOST_PARAMETERS = 7;
    private static final int MOST_LINES = 60;
    private static final int MOST_CALLS_DEEP = 6;
    private static final int MOST_FIELDS = 40;

    // What may stand in a method. All else is refused, so that what is not
    // thought of here is refused as well.
    private static final Set<Kind> FORMS = EnumSet.of(
        Kind.METHOD, Kind.MODIFIERS, Kind.VARIABLE, Kind.BLOCK, Kind.PRIMITIVE_TYPE,
        Kind.IF, Kind.FOR_LOOP, Kind.RETURN, Kind.BREAK, Kind.CONTINUE, Kind.EXPRESSION_STATEMENT,
        Kind.IDENTIFIER, Kind.INT_LITERAL, Kind.LONG_LITERAL, Kind.BOOLEAN_LITERAL,
        Kind.METHOD_INVOCATION, Kind.ARRAY_ACCESS, Kind.PARENTHESIZED, Kind.CONDITIONAL_EXPRESSION,
        Kind.ASSIGNMENT, Kind.PLUS_ASSIGNMENT, Kind.MINUS_ASSIGNMENT,
        Kind.POSTFIX_INCREMENT, Kind.POSTFIX_DECREMENT, Kind.UNARY_MINUS, Kind.BITWISE_COMPLEMENT,
        Kind.LOGICAL_COMPLEMENT, Kind.CONDITIONAL_AND, Kind.CONDITIONAL_OR,
        Kind.PLUS, Kind.MINUS, Kind.MULTIPLY, Kind.AND, Kind.OR, Kind.XOR,
        Kind.LEFT_SHIFT, Kind.RIGHT_SHIFT, Kind.UNSIGNED_RIGHT_SHIFT,
        Kind.EQUAL_TO, Kind.NOT_EQUAL_TO, Kind.LESS_THAN, Kind.LESS_THAN_EQUAL,
        Kind.GREATER_THAN, Kind.GREATER_THAN_EQUAL);
    private static final Set<TypeKind> NUMBERS = EnumSet.of(
        TypeKind.INT, TypeKind.LONG, TypeKind.SHORT, TypeKind.BYTE, TypeKind.CHAR, TypeKind.BOOLEAN);

    private static final TreeSet<String> constants = new TreeSet<>();
    private static final TreeSet<String> arrays = new TreeSet<>();
    private static int wrong = 0;

    private static void check(boolean holds, String what) {
        if (!holds) {
            wrong++;
            System.out.println("not so: " + what);
        }
    }

    public static void main(String[] args) throws IOException {
        JavaCompiler compiler = ToolProvider.getSystemJavaCompiler();
        try (StandardJavaFileManager files = compiler.getStandardFileManager(null, null, null)) {
            JavacTask task = (JavacTask) compiler.getTask(
                null, files, null, null, null, files.getJavaFileObjects(SOURCE));
            SourcePositions positions = Trees.instance(task).getSourcePositions();
            int classes = 0;
            for (CompilationUnitTree unit : task.parse()) {
                check(unit.getPackage() == null && unit.getImports().isEmpty(), "no package, nothing imported");
                for (Tree type : unit.getTypeDecls()) {
                    checkClass(unit, (ClassTree) type, positions);
                    classes++;
                }
            }
            check(classes == 1, "one class is found in " + SOURCE);
        }
        System.out.println(wrong == 0 ? "the form is the language's" : wrong + " faults");
        if (wrong != 0) {
            System.exit(1);
        }
    }

    private static void checkClass(CompilationUnitTree unit, ClassTree type, SourcePositions positions) {
        List<MethodTree> methods = new ArrayList<>();
        int fields = 0;
        for (Tree member : type.getMembers()) {
            if (member instanceof MethodTree) {
                methods.add((MethodTree) member);
            } else if (member instanceof VariableTree) {
                fields += isStatic((VariableTree) member) ? 0 : 1;
                checkField((VariableTree) member);
            } else {
                check(false, "fields and methods alone: " + member);
            }
        }
        check(fields <= MOST_FIELDS, "at most " + MOST_FIELDS + " fields: " + fields);
        for (MethodTree method : methods) {
            checkSize(unit, method, positions);
            checkForms(method);
        }
        checkCalls(methods);
    }

    private static boolean isStatic(VariableTree field) {
        return field.getModifiers().getFlags().contains(Modifier.STATIC);
    }

    // Fields are looked at from the first to the last, so a constant is known
    // where an array after it has it as its length.
    private static void checkField(VariableTree field) {
        checkType(field.getType(), "" + field);
        ExpressionTree value = field.getInitializer();
        if (isStatic(field)) {
            check(field.getType() instanceof PrimitiveTypeTree, "a static field is a constant: " + field);
            constants.add(field.getName().toString());
        }
        if (field.getType() instanceof ArrayTypeTree) {
            arrays.add(field.getName().toString());
            check(field.getModifiers().getFlags().contains(Modifier.FINAL), "no other array later: " + field);
            check(value instanceof NewArrayTree && hasConstantLength((NewArrayTree) value),
                "an array is made with its field, with a constant length: " + field);
        } else if (value != null) {
            checkFormsOf(value, "the field " + field.getName());
        }
    }

    private static boolean hasConstantLength(NewArrayTree array) {
        return array.getInitializers() == null && array.getDimensions().size() == 1
            && isConstant(array.getDimensions().get(0));
    }

    private static boolean isConstant(ExpressionTree value) {
        return value.getKind() == Kind.INT_LITERAL || constants.contains(value.toString());
    }

    private static void checkType(Tree type, String where) {
        Tree single = type instanceof ArrayTypeTree ? ((ArrayTypeTree) type).getType() : type;
        check(single instanceof PrimitiveTypeTree
            && NUMBERS.contains(((PrimitiveTypeTree) single).getPrimitiveTypeKind()),
            "whole numbers, booleans and their arrays alone: " + where);
    }

    private static void checkSize(CompilationUnitTree unit, MethodTree method, SourcePositions positions) {
        String name = method.getName().toString();
        long first = unit.getLineMap().getLineNumber(positions.getStartPosition(unit, method));
        long last = unit.getLineMap().getLineNumber(positions.getEndPosition(unit, method));
        check(last - first < MOST_LINES, "at most " + MOST_LINES + " lines: " + name);
        check(method.getParameters().size() <= MOST_PARAMETERS,
            "at most " + MOST_PARAMETERS + " parameters: " + name);
    }

    private static void checkForms(MethodTree method) {
        String name = method.getName().toString();
        check(method.getThrows().isEmpty(), "nothing is thrown: " + name);
        check(!method.getModifiers().getFlags().contains(Modifier.SYNCHRONIZED), "not synchronized: " + name);
        if (method.getReturnType() != null) {
            checkType(method.getReturnType(), "the answer of " + name);
        }
        checkFormsOf(method, name);
    }

    private static void checkFormsOf(Tree tree, String where) {
        new TreeScanner<Void, Void>() {
            @Override
            public Void scan(Tree part, Void none) {
                check(part == null || FORMS.contains(part.getKind()),
                    "a form that the rules leave, in " + where + ": " + part);
                return super.scan(part, none);
            }

            @Override
            public Void visitVariable(VariableTree variable, Void none) {
                checkType(variable.getType(), where + ": " + variable);
                return super.visitVariable(variable, none);
            }

            @Override
            public Void visitBinary(BinaryTree binary, Void none) {
                check(!arrays.contains(binary.getLeftOperand().toString())
                    && !arrays.contains(binary.getRightOperand().toString()),
                    "no array is compared, in " + where + ": " + binary);
                return super.visitBinary(binary, none);
            }

            @Override
            public Void visitForLoop(ForLoopTree loop, Void none) {
                check(isCounted(loop), "a loop counts up to a constant, in " + where + ": " + loop);
                return super.visitForLoop(loop, none);
            }
        }.scan(tree, null);
    }

    // for (int i = 0; i < CONSTANT; i++), and what stands in it leaves i alone.
    private static boolean isCounted(ForLoopTree loop) {
        if (loop.getInitializer().size() != 1 || !(loop.getInitializer().get(0) instanceof VariableTree)
                || loop.getUpdate().size() != 1 || !(loop.getCondition() instanceof BinaryTree)) {
            return false;
        }
        VariableTree counter = (VariableTree) loop.getInitializer().get(0);
        BinaryTree bound = (BinaryTree) loop.getCondition();
        String name = counter.getName().toString();
        return counter.getInitializer().getKind() == Kind.INT_LITERAL
            && bound.getKind() == Kind.LESS_THAN
            && bound.getLeftOperand().toString().equals(name)
            && isConstant(bound.getRightOperand())
            && loop.getUpdate().get(0).getExpression().toString().equals(name + "++")
            && !changedIn(loop.getStatement()).contains(name);
    }

    private static TreeSet<String> changedIn(Tree tree) {
        TreeSet<String> names = new TreeSet<>();
        new TreeScanner<Void, Void>() {
            @Override
            public Void visitAssignment(AssignmentTree change, Void none) {
                names.add(change.getVariable().toString());
                return super.visitAssignment(change, none);
            }

            @Override
            public Void visitCompoundAssignment(CompoundAssignmentTree change, Void none) {
                names.add(change.getVariable().toString());
                return super.visitCompoundAssignment(change, none);
            }

            @Override
            public Void visitUnary(UnaryTree change, Void none) {
                names.add(change.getExpression().toString());
                return super.visitUnary(change, none);
            }
        }.scan(tree, null);
        return names;
    }

    private static void checkCalls(List<MethodTree> methods) {
        Map<String, TreeSet<String>> calls = new TreeMap<>();
        for (MethodTree method : methods) {
            String name = method.getName().toString();
            calls.computeIfAbsent(name, n -> new TreeSet<>()).addAll(callsOf(method));
            checkArguments(method);
        }
        check(calls.containsKey("allow"), "the class's methods are found");
        for (String method : calls.keySet()) {
            check(calls.keySet().containsAll(calls.get(method)),
                "calls of the class's own methods alone: " + method + " calls " + calls.get(method));
            List<String> longest = longestWay(method, calls, new ArrayList<>());
            check(longest.size() - 1 <= MOST_CALLS_DEEP,
                "calls go at most " + MOST_CALLS_DEEP + " deep: " + String.join(" > ", longest));
        }
    }

    private static void checkArguments(MethodTree method) {
        new TreeScanner<Void, Void>() {
            @Override
            public Void visitMethodInvocation(MethodInvocationTree call, Void none) {
                for (ExpressionTree argument : call.getArguments()) {
                    check(callsOf(argument).isEmpty(),
                        "no call inside the arguments of another: " + call + " in " + method.getName());
                }
                return super.visitMethodInvocation(call, none);
            }
        }.scan(method, null);
    }

    private static TreeSet<String> callsOf(Tree tree) {
        TreeSet<String> names = new TreeSet<>();
        new TreeScanner<Void, Void>() {
            @Override
            public Void visitMethodInvocation(MethodInvocationTree call, Void none) {
                ExpressionTree called = call.getMethodSelect();
                check(called instanceof IdentifierTree, "a call of the class's own by its plain name: " + call);
                names.add(called.toString());
                return super.visitMethodInvocation(call, none);
            }
        }.scan(tree, null);
        return names;
    }

    // The longest way of calls that begins with the method, which the methods
    // on the way to it have led to.
    private static List<String> longestWay(
            String method, Map<String, TreeSet<String>> calls, List<String> before) {
        List<String> longest = new ArrayList<>(List.of(method));
        if (before.contains(method)) {
            check(false, "no recursion: " + String.join(" > ", before) + " > " + method);
            return longest;
        }
        List<String> way = new ArrayList<>(before);
        way.add(method);
        for (String called : calls.getOrDefault(method, new TreeSet<>())) {
            List<String> rest = longestWay(called, calls, way);
            if (rest.size() + 1 > longest.size()) {
                longest = new ArrayList<>(List.of(method));
                longest.addAll(rest);
            }
        }
        return longest;
    }
}
