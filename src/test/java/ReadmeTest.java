import java.io.IOException;
import java.lang.reflect.InvocationTargetException;
import java.lang.reflect.Method;
import java.lang.reflect.Modifier;
import java.nio.charset.StandardCharsets;
import java.nio.file.Files;
import java.nio.file.Path;
import java.util.ArrayList;
import java.util.List;
import java.util.TreeSet;
import java.util.regex.Matcher;
import java.util.regex.Pattern;

/** README.md tells the truth: its example answers what it says, and its tables name every call and every test. */
public final class ReadmeTest {
    // One call a line; behind it "// 3" or "// 3: a remark" where it answers 3, "// throws SomeException" where it throws.
    private static final Pattern CALL = Pattern.compile("parish\\.(\\w+)\\(([^)]*)\\);\\s*// (throws \\w+|-?\\d+)(:.*)?");

    private final Check check = new Check("ReadmeTest");
    private final SteepleWords parish = new SteepleWords();

    public static void main(String[] args) throws IOException, IllegalAccessException {
        Path root = Path.of(args.length > 0 ? args[0] : ".");
        new ReadmeTest().run(root, Files.readString(root.resolve("README.md"), StandardCharsets.UTF_8));
    }

    private void run(Path root, String readme) throws IOException, IllegalAccessException {
        for (String line : example(readme)) {
            tryLine(line);
        }
        namesEveryCall(readme);
        namesEveryTest(root, readme);
        check.isTrue("it says how the tests are run", readme.contains("bash .ci/run"));
        check.end();
    }

    private List<String> example(String readme) {
        Matcher block = Pattern.compile("(?s)```java\n(.*?)```").matcher(readme);
        check.isTrue("there is an example", block.find());
        List<String> lines = new ArrayList<>(List.of(block.group(1).split("\n")));
        check.isTrue("the example makes an object first", lines.remove(0).startsWith("SteepleWords parish = new SteepleWords();"));
        return lines;
    }

    private void tryLine(String line) throws IllegalAccessException {
        if (line.isBlank() || line.startsWith("//")) {
            return;
        }
        Matcher call = CALL.matcher(line);
        boolean isCall = call.matches();
        check.isTrue("'" + line + "' is a call with its answer", isCall);
        if (isCall) {
            String got = outcome(call.group(1), call.group(2));
            check.isTrue("'" + line + "' (it is " + got + ")", got.equals(call.group(3)));
        }
    }

    private String outcome(String name, String told) throws IllegalAccessException {
        String[] words = told.isEmpty() ? new String[0] : told.split(", ");
        for (Method m : SteepleWords.class.getMethods()) {
            if (m.getName().equals(name) && m.getParameterCount() == words.length) {
                try {
                    return String.valueOf(m.invoke(parish, numbers(m, words)));
                } catch (InvocationTargetException e) {
                    return "throws " + e.getCause().getClass().getSimpleName();
                }
            }
        }
        return "no call of the class";
    }

    private static Object[] numbers(Method m, String[] words) {
        Object[] numbers = new Object[words.length];
        for (int i = 0; i < words.length; i++) {
            boolean isSign = words[i].startsWith("'");
            boolean isLong = m.getParameterTypes()[i] == long.class;
            numbers[i] = isSign ? (Object) (int) words[i].charAt(1)
                    : isLong ? (Object) Long.parseLong(words[i].replaceAll("L$", "")) : (Object) Integer.parseInt(words[i]);
        }
        return numbers;
    }

    private void namesEveryCall(String readme) {
        for (Method m : SteepleWords.class.getDeclaredMethods()) {
            if (Modifier.isPublic(m.getModifiers())) {
                check.isTrue("it names " + m.getName(), readme.contains("`" + m.getName() + "`"));
            }
        }
    }

    private void namesEveryTest(Path root, String readme) throws IOException {
        TreeSet<String> named = new TreeSet<>();
        Matcher row = Pattern.compile("(?m)^\\| `(\\w+Test)` \\|").matcher(readme);
        while (row.find()) {
            named.add(row.group(1));
        }
        TreeSet<String> there = new TreeSet<>();
        try (var files = Files.list(root.resolve("src/test/java"))) {
            files.map(f -> f.getFileName().toString()).filter(f -> f.endsWith("Test.java"))
                    .forEach(f -> there.add(f.replace(".java", "")));
        }
        check.isTrue("it names " + named + ", there are " + there, named.equals(there));
    }
}
