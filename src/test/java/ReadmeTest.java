import java.io.IOException;
import java.lang.reflect.Method;
import java.nio.file.Files;
import java.nio.file.Path;
import java.util.ArrayList;
import java.util.List;
import java.util.TreeSet;
import java.util.regex.Matcher;
import java.util.regex.Pattern;

// README.md tells how to use the class: its example answers what it says, and
// each method, the limit and the command that runs the tests are there. It is
// run from the project's folder.
public final class ReadmeTest {
    private static final Path README = Path.of("README.md");
    private static final Pattern CALL = Pattern.compile("routes\\.(\\w+)\\(([^)]*)\\);\\s*// ([-\\w]+).*");
    private static final String[] ROWS = {
        "| `allow(address, length, peer)` |", "| `deny(address, length)` |", "| `forget(peer)` |",
        "| `owner(address)` |", "| `length(address)` |", "| `owned(peer)` |", "| `next(peer, from)` |",
        "| `useless()` |", "| `entries(peer)` |"
    };

    private static int wrong = 0;

    private static void check(boolean holds, String what) {
        if (!holds) {
            wrong++;
            System.out.println("not so: " + what);
        }
    }

    public static void main(String[] args) throws IOException, ReflectiveOperationException {
        List<String> lines = Files.readAllLines(README);
        runExample(lines);
        for (String row : ROWS) {
            check(lines.stream().anyMatch(line -> isWholeRow(line, row)),
                "a row says what it takes, answers and refuses: " + row);
        }
        check(lines.stream().anyMatch(line -> line.contains("512 calls")), "the limit of 512 calls is told");
        check(lines.stream().anyMatch(line -> line.strip().equals(".ci/run")), "the tests' command is told");
        System.out.println(wrong == 0 ? "README.md holds" : wrong + " faults");
        if (wrong != 0) {
            System.exit(1);
        }
    }

    // The call, what it takes, what it answers, when it refuses, and what
    // stands before the first and behind the last of the five bars.
    private static boolean isWholeRow(String line, String row) {
        String[] cells = line.split("\\|", -1);
        boolean filled = cells.length == 6;
        for (int i = 1; filled && i <= 4; i++) {
            filled = !cells[i].isBlank();
        }
        return filled && line.startsWith(row);
    }

    private static void runExample(List<String> lines) throws ReflectiveOperationException {
        check(lines.contains("PeerRoutes routes = new PeerRoutes();"), "an object is made");
        PeerRoutes routes = new PeerRoutes();
        TreeSet<String> shown = new TreeSet<>();
        for (String line : lines) {
            Matcher call = CALL.matcher(line);
            if (call.matches()) {
                int got = answer(routes, call.group(1), call.group(2));
                check(got == Integer.decode(call.group(3)), line + " (it answers " + got + ")");
                shown.add(call.group(1));
            } else {
                check(!line.startsWith("routes."), "a call with its answer: " + line);
            }
        }
        check(shown.size() == ROWS.length, "each method is shown: " + shown);
    }

    private static int answer(PeerRoutes routes, String name, String arguments)
            throws ReflectiveOperationException {
        List<Object> values = new ArrayList<>();
        List<Class<?>> types = new ArrayList<>();
        for (String argument : arguments.split(", ")) {
            if (!argument.isEmpty()) {
                values.add(Integer.decode(argument));
                types.add(int.class);
            }
        }
        Method method = PeerRoutes.class.getMethod(name, types.toArray(new Class<?>[0]));
        return (Integer) method.invoke(routes, values.toArray());
    }
}
