import java.io.IOException;
import java.lang.reflect.Method;
import java.lang.reflect.Modifier;
import java.nio.file.Files;
import java.nio.file.Path;
import java.util.ArrayList;
import java.util.Arrays;
import java.util.HashMap;
import java.util.List;
import java.util.Map;
import java.util.Set;
import java.util.TreeSet;
import java.util.regex.Matcher;
import java.util.regex.Pattern;
import java.util.stream.Collectors;
import java.util.stream.Stream;

/** README.md: each call that it shows answers as it says, and its tables have each call of the face and each test. */
public final class ReadmeTest {
    private static final String NEW_PARK = "ParkRows park = new ParkRows();";
    /** int name = park.call(arguments);  // answer: why */
    private static final Pattern SHOWN_CALL = Pattern.compile(
        "(?:(int|boolean) (\\w+) = )?park\\.(\\w+)\\(([^()]*)\\); *// (-?\\d+|true|false)(?:: .+)?");
    private static final Pattern BLOCK = Pattern.compile("```java\n(.*?)```", Pattern.DOTALL);
    private static final Pattern ROW_OF_CALL = Pattern.compile("(?m)^\\| `(int|boolean) (\\w+)\\(([^)]*)\\)` \\|");
    private static final Pattern ROW_OF_TEST = Pattern.compile("(?m)^\\| `(\\w+Test)` \\|");

    private final Calls calls;
    private final Map<String, String> values = new HashMap<>();

    private ReadmeTest(String title) {
        calls = Calls.onNew(title);
    }

    public static void main(String[] args) throws IOException {
        String readme = Files.readString(Path.of("README.md"));
        int blocks = 0;
        Matcher block = BLOCK.matcher(readme);
        while (block.find()) {
            blocks++;
            new ReadmeTest("README.md, block " + blocks).run(block.group(1).split("\n"));
        }
        alike("blocks of calls are shown", true, blocks > 0);
        alike("the calls in the table", face(), callsInTheTable(readme));
        alike("the tests in the table", testFiles(), testsInTheTable(readme));
        Calls.finish();
    }

    private void run(String[] lines) {
        if (!lines[0].equals(NEW_PARK)) {
            calls.isWrong("the block does not begin with a new park: " + lines[0]);
        }
        for (int i = 1; i < lines.length; i++) {
            Matcher shown = SHOWN_CALL.matcher(lines[i]);
            if (shown.matches()) {
                make(shown);
            } else {
                calls.isWrong("this is not a call with its answer: " + lines[i]);
            }
        }
    }

    private void make(Matcher shown) {
        String type = shown.group(1);
        String name = shown.group(2);
        String call = shown.group(3) + "(" + withValues(shown.group(4)) + ")";
        String answer = shown.group(5);
        boolean tellsTruth = answer.equals("true") || answer.equals("false");
        calls.due(call, tellsTruth ? (answer.equals("true") ? 1 : 0) : Integer.parseInt(answer));
        String answers = returnTypeOf(shown.group(3));
        if (tellsTruth != answers.equals("boolean") || type != null && !type.equals(answers)) {
            calls.isWrong(call + " answers " + answers + ": " + shown.group());
        }
        if (name != null && values.put(name, answer) != null) {
            calls.isWrong("the name is there already: " + shown.group());
        }
    }

    /** The arguments, with what was answered in place of the names that were given to answers. */
    private String withValues(String arguments) {
        return Stream.of(arguments.split(", ")).map(one -> values.getOrDefault(one, one)).collect(Collectors.joining(", "));
    }

    private static List<Method> methodsOfTheFace() {
        List<Method> methods = new ArrayList<>();
        for (Method method : ParkRows.class.getDeclaredMethods()) {
            if (Modifier.isPublic(method.getModifiers())) {
                methods.add(method);
            }
        }
        return methods;
    }

    private static String returnTypeOf(String name) {
        for (Method method : methodsOfTheFace()) {
            if (method.getName().equals(name)) {
                return method.getReturnType().getName();
            }
        }
        return "nothing";
    }

    private static Set<String> face() {
        Set<String> face = new TreeSet<>();
        for (Method method : methodsOfTheFace()) {
            String types = Arrays.stream(method.getParameterTypes()).map(Class::getName).collect(Collectors.joining(", "));
            face.add(method.getReturnType() + " " + method.getName() + "(" + types + ")");
        }
        return face;
    }

    private static Set<String> callsInTheTable(String readme) {
        Set<String> found = new TreeSet<>();
        Matcher row = ROW_OF_CALL.matcher(readme);
        while (row.find()) {
            found.add(row.group(1) + " " + row.group(2) + "(" + row.group(3).replaceAll(" \\w+(?=,|$)", "") + ")");
        }
        return found;
    }

    private static Set<String> testFiles() throws IOException {
        try (Stream<Path> files = Files.list(Path.of("src/test/java"))) {
            return files.map(file -> file.getFileName().toString()).filter(name -> name.endsWith("Test.java"))
                .map(name -> name.replace(".java", "")).collect(Collectors.toCollection(TreeSet::new));
        }
    }

    private static Set<String> testsInTheTable(String readme) {
        Set<String> found = new TreeSet<>();
        Matcher row = ROW_OF_TEST.matcher(readme);
        while (row.find()) {
            found.add(row.group(1));
        }
        return found;
    }

    private static void alike(String what, Object want, Object got) {
        if (!want.equals(got)) {
            Calls.onNew("README.md").isWrong(what + ": " + got + ", due is " + want);
        }
    }
}
