import java.io.IOException;
import java.lang.reflect.Field;
import java.lang.reflect.Method;
import java.lang.reflect.Modifier;
import java.nio.file.Files;
import java.nio.file.Path;
import java.util.Arrays;
import java.util.List;
import java.util.Set;
import java.util.TreeSet;
import java.util.regex.Matcher;
import java.util.regex.Pattern;

/** README.md: its example answers as it says, and nothing of the class or its tests is left out of it. */
public final class ReadmeTest {
    private static final Path README = Path.of("README.md");
    private static final Path TESTS = Path.of("src/test/java");
    private static final Pattern MAKING = Pattern.compile("PathJudge judge = new PathJudge\\((.*?)\\);.*");
    private static final Pattern CALL = Pattern.compile("judge\\.(\\w+)\\((.*?)\\); +// (-?\\w+)(.*)");
    private static final Pattern OPERATION = Pattern.compile("\\| (\\d+) \\| `(\\w+)( \\w)?` \\| .+ \\|");
    private static final Pattern LISTED_TEST = Pattern.compile("\\| (\\w+Test) \\| .+ \\|");
    private static final Pattern FILE = Pattern.compile("`((?:\\.\\./|\\.ci/|src/)[\\w./]*)`");

    private ReadmeTest() {
    }

    public static void main(String[] args) throws IOException, ReflectiveOperationException {
        List<String> lines = Files.readAllLines(README);
        String text = String.join("\n", lines);
        example(lines);
        operations(lines);
        face(text);
        limits(text.replaceAll("\\s+", " "));
        tests(lines);
        files(text);
        Due.end();
    }

    private static void example(List<String> lines) throws ReflectiveOperationException {
        PathJudge judge = null;
        int start = lines.indexOf("```java");
        int calls = 0;
        for (int i = start + 1; start >= 0 && !lines.get(i).equals("```"); i++) {
            Matcher making = MAKING.matcher(lines.get(i));
            Matcher call = CALL.matcher(lines.get(i));
            if (making.matches()) {
                Object[] sizes = numbers(making.group(1));
                judge = new PathJudge((int) sizes[0], (int) sizes[1]);
            } else if (call.matches() && judge != null) {
                exampleCall(judge, lines.get(i), call);
                calls++;
            } else {
                Due.holds("this line is a call and its answer: " + lines.get(i), lines.get(i).isEmpty());
            }
        }
        Due.holds("the example has calls", calls > 0);
    }

    private static void exampleCall(PathJudge judge, String line, Matcher call) throws ReflectiveOperationException {
        Object[] values = numbers(call.group(2));
        Class<?>[] types = new Class<?>[values.length];
        Arrays.fill(types, int.class);
        Object answer = PathJudge.class.getMethod(call.group(1), types).invoke(judge, values);
        String due = call.group(3);
        String meant = due.matches("[A-Z]+") ? String.valueOf(PathJudge.class.getField(due).getInt(null)) : due;
        Due.holds("answered " + answer + " by: " + line, meant.equals(String.valueOf(answer)));
        if (call.group(1).equals("emit")) {
            String name = " " + Code.name((int) values[0]);
            Due.holds("it names the operation" + name + ": " + line, (call.group(4) + " ").startsWith(name + " "));
        }
    }

    private static Object[] numbers(String text) {
        String[] parts = text.isEmpty() ? new String[0] : text.split(", ");
        Object[] values = new Object[parts.length];
        for (int i = 0; i < parts.length; i++) {
            values[i] = Integer.valueOf(parts[i]);
        }
        return values;
    }

    private static void operations(List<String> lines) {
        Set<Integer> listed = new TreeSet<>();
        for (String line : lines) {
            Matcher operation = OPERATION.matcher(line);
            if (operation.matches()) {
                int op = Integer.parseInt(operation.group(1));
                Due.holds("listed once: " + line, listed.add(op));
                Due.holds("its name: " + line, op < 14 && operation.group(2).equals(Code.name(op)));
                boolean takesArgument = Set.of(Code.PUSH, Code.LOAD, Code.KEEP, Code.JUMP, Code.FORK).contains(op);
                Due.is("has an argument: " + line, takesArgument, operation.group(3) != null);
            }
        }
        Due.is("operations that are listed", 14, listed.size());
    }

    private static void face(String text) throws IllegalAccessException {
        for (Method method : PathJudge.class.getDeclaredMethods()) {
            if (Modifier.isPublic(method.getModifiers())) {
                String call = "`" + method.getName() + "(";
                Due.holds("README.md tells of " + method.getName(), text.contains(call));
            }
        }
        for (Field field : PathJudge.class.getFields()) {
            String constant = "`" + field.getName() + " = " + field.getInt(null) + "`";
            Due.holds("README.md tells of " + constant, text.contains(constant));
        }
    }

    /** What a user must know before the first call, and can't see from the answers. */
    private static void limits(String text) {
        for (String words : new String[] {"at most 512 calls", "at most 16 instructions", "clamped to 1 .. 4",
            "clamped to 1 .. 8", "above 64 as 64", "`-1`", "`-2`", "`-3`"}) {
            Due.holds("README.md says: " + words, text.contains(words));
        }
    }

    private static void tests(List<String> lines) throws IOException {
        Set<String> listed = new TreeSet<>();
        for (String line : lines) {
            Matcher test = LISTED_TEST.matcher(line);
            if (test.matches()) {
                Due.holds("listed once: " + line, listed.add(test.group(1) + ".java"));
            }
        }
        Set<String> found = new TreeSet<>();
        try (var files = Files.list(TESTS)) {
            files.map(file -> file.getFileName().toString()).filter(name -> name.endsWith("Test.java"))
                    .forEach(found::add);
        }
        Due.holds("listed are " + listed + ", there are " + found, listed.equals(found));
    }

    private static void files(String text) {
        Matcher file = FILE.matcher(text);
        while (file.find()) {
            Due.holds(file.group(1) + " is there", Files.exists(Path.of(file.group(1))));
        }
        Due.holds("README.md says how to run the tests", text.contains("\n.ci/run\n"));
        Due.holds(".ci/run can be run", Files.isExecutable(Path.of(".ci/run")));
    }
}
