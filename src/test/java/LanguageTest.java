import com.sun.source.tree.ClassTree;
import com.sun.source.tree.CompilationUnitTree;
import com.sun.source.tree.ExpressionTree;
import com.sun.source.tree.IdentifierTree;
import com.sun.source.tree.MethodInvocationTree;
import com.sun.source.tree.MethodTree;
import com.sun.source.tree.Tree;
import com.sun.source.tree.VariableTree;
import com.sun.source.util.JavacTask;
import com.sun.source.util.SourcePositions;
import com.sun.source.util.TreeScanner;
import com.sun.source.util.Trees;
import java.io.IOException;
import java.nio.file.Path;
import java.util.ArrayList;
import java.util.List;
import java.util.Map;
import java.util.TreeMap;
import java.util.TreeSet;
import javax.lang.model.element.Modifier;
import javax.tools.JavaCompiler;
import javax.tools.StandardJavaFileManager;
import javax.tools.ToolProvider;

// The form of the source: LANGUAGE.md, rule 10, and the recursion of rule 8,
// without which calls have no depth. It is run from the project's folder.
public final class LanguageTest {
    private static final Path SOURCE = Path.of("src", "main", "java", "PeerRoutes.java");
    private static final int MOST_PARAMETERS = 7;
    private static final int MOST_LINES = 60;
    private static final int MOST_CALLS_DEEP = 6;
    private static final int MOST_FIELDS = 40;

    private static int wrong = 0;

    private static void check(boolean holds, String what) {
        if (!holds) {
            wrong++;
            System.out.println("not so: " + what);
        }
    }

    public static void main(String[] args) throws IOException {
        JavaCompiler compiler = ToolProvider.getSystemJavaCompiler();
        try (StandardJavaFileManager files = compiler.getStandardFileManager(null, null, null)) {
            JavacTask task = (JavacTask) compiler.getTask(
                null, files, null, null, null, files.getJavaFileObjects(SOURCE));
            SourcePositions positions = Trees.instance(task).getSourcePositions();
            int classes = 0;
            for (CompilationUnitTree unit : task.parse()) {
                for (Tree type : unit.getTypeDecls()) {
                    checkClass(unit, (ClassTree) type, positions);
                    classes++;
                }
            }
            check(classes == 1, "one class is found in " + SOURCE);
        }
        System.out.println(wrong == 0 ? "the form is the language's" : wrong + " faults");
        if (wrong != 0) {
            System.exit(1);
        }
    }

    private static void checkClass(CompilationUnitTree unit, ClassTree type, SourcePositions positions) {
        Map<String, TreeSet<String>> calls = new TreeMap<>();
        int fields = 0;
        for (Tree member : type.getMembers()) {
            if (member instanceof MethodTree) {
                MethodTree method = (MethodTree) member;
                checkMethod(unit, method, positions);
                String name = method.getName().toString();
                calls.computeIfAbsent(name, n -> new TreeSet<>()).addAll(callsOf(method));
            } else if (member instanceof VariableTree) {
                boolean constant = ((VariableTree) member).getModifiers().getFlags().contains(Modifier.STATIC);
                fields += constant ? 0 : 1;
            }
        }
        check(calls.containsKey("allow"), "the class's methods are found");
        check(fields <= MOST_FIELDS, "at most " + MOST_FIELDS + " fields: " + fields);
        for (String method : calls.keySet()) {
            List<String> longest = longestWay(method, calls, new ArrayList<>());
            check(longest.size() - 1 <= MOST_CALLS_DEEP,
                "calls go at most " + MOST_CALLS_DEEP + " deep: " + String.join(" > ", longest));
        }
    }

    private static void checkMethod(CompilationUnitTree unit, MethodTree method, SourcePositions positions) {
        String name = method.getName().toString();
        long first = unit.getLineMap().getLineNumber(positions.getStartPosition(unit, method));
        long last = unit.getLineMap().getLineNumber(positions.getEndPosition(unit, method));
        check(last - first < MOST_LINES, "at most " + MOST_LINES + " lines: " + name);
        check(method.getParameters().size() <= MOST_PARAMETERS,
            "at most " + MOST_PARAMETERS + " parameters: " + name);
        new TreeScanner<Void, Void>() {
            @Override
            public Void visitMethodInvocation(MethodInvocationTree call, Void none) {
                for (ExpressionTree argument : call.getArguments()) {
                    check(callsOf(argument).isEmpty(),
                        "no call inside the arguments of another: " + call + " in " + name);
                }
                return super.visitMethodInvocation(call, none);
            }
        }.scan(method, null);
    }

    private static TreeSet<String> callsOf(Tree tree) {
        TreeSet<String> names = new TreeSet<>();
        new TreeScanner<Void, Void>() {
            @Override
            public Void visitMethodInvocation(MethodInvocationTree call, Void none) {
                ExpressionTree called = call.getMethodSelect();
                check(called instanceof IdentifierTree, "a call of the class's own by its plain name: " + call);
                names.add(called.toString());
                return super.visitMethodInvocation(call, none);
            }
        }.scan(tree, null);
        return names;
    }

    // The longest way of calls that begins with the method, which the methods
    // on the way to it have led to.
    private static List<String> longestWay(
            String method, Map<String, TreeSet<String>> calls, List<String> before) {
        List<String> longest = new ArrayList<>(List.of(method));
        if (before.contains(method)) {
            check(false, "no recursion: " + String.join(" > ", before) + " > " + method);
            return longest;
        }
        List<String> way = new ArrayList<>(before);
        way.add(method);
        for (String called : calls.getOrDefault(method, new TreeSet<>())) {
            List<String> rest = longestWay(called, calls, way);
            if (rest.size() + 1 > longest.size()) {
                longest = new ArrayList<>(List.of(method));
                longest.addAll(rest);
            }
        }
        return longest;
    }
}
