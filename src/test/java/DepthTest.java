import java.io.IOException;
import java.lang.reflect.Field;
import java.lang.reflect.Method;
import java.lang.reflect.Modifier;
import java.nio.charset.StandardCharsets;
import java.nio.file.Files;
import java.nio.file.Path;
import java.util.ArrayDeque;
import java.util.Map;
import java.util.TreeMap;
import java.util.TreeSet;
import java.util.regex.Matcher;
import java.util.regex.Pattern;

/**
 * Rules 8 and 11 of ../shared/LANGUAGE.md: who calls whom, seen in the words of the program. A call of another class
 * counts as one of every method there that has this name, so that no depth is told too small.
 */
public final class DepthTest {
    private static final int DEEPEST = 8;
    private static final int MOST_PARAMETERS = 7;
    private static final int MOST_CLASSES = 12;
    private static final int MOST_FIELDS = 20;

    private static final Pattern CLASS_OR_HEAD = Pattern.compile("(?m)^ *(?:(?:public|private|static|final) )*class (\\w+) \\{$"
            + "|^ {4,8}(?:(?:public|private|static) )*(?:[\\w\\[\\]]+ )?(\\w+)\\(([^;{)]*)\\)[^;{()]*\\{");
    private static final Pattern CALL = Pattern.compile("(\\.|new )?\\b(\\w+)\\(");
    private static final String FACE = "SteepleWords";

    private final Check check = new Check("DepthTest");
    private final TreeSet<String> classes = new TreeSet<>();
    private final Map<String, String> bodies = new TreeMap<>();

    public static void main(String[] args) throws IOException {
        Path root = Path.of(args.length > 0 ? args[0] : ".");
        String source = Files.readString(root.resolve("src/main/java/SteepleWords.java"), StandardCharsets.ISO_8859_1);
        new DepthTest().run(source.replaceAll("(?s)/\\*.*?\\*/", " ").replaceAll("//[^\n]*", " ").replaceAll("\"[^\"\n]*\"", "\"\""));
    }

    private void run(String code) {
        readMethods(code);
        check.isTrue("all calls of the face are found in " + bodies.keySet(), hasFace());
        for (String method : bodies.keySet()) {
            int depth = depth(method, new ArrayDeque<>());
            check.isTrue("11: " + method + " goes " + depth + " deep", depth <= DEEPEST);
        }
        check.isTrue("11: some twelve classes, there are " + classes, classes.size() <= MOST_CLASSES);
        countFields();
        check.end();
    }

    // What stands between the heads of two methods belongs to the first of them: fields there only make objects.
    private void readMethods(String code) {
        Matcher head = CLASS_OR_HEAD.matcher(code);
        String inside = "";
        String method = "";
        int start = 0;
        while (head.find()) {
            note(method, code.substring(start, head.start()));
            if (head.group(1) != null) {
                inside = head.group(1);
                method = inside + ".";
                classes.add(inside);
            } else {
                method = inside + "." + head.group(2);
                check.isTrue("11: the parameters of " + method, head.group(3).split(",").length <= MOST_PARAMETERS);
            }
            start = head.end();
        }
        note(method, code.substring(start));
    }

    private void note(String method, String body) {
        if (!method.isEmpty()) {
            bodies.merge(method, body, String::concat);
        }
    }

    private boolean hasFace() {
        boolean found = true;
        for (Method m : SteepleWords.class.getDeclaredMethods()) {
            found &= m.isSynthetic() || bodies.containsKey(FACE + "." + m.getName());
        }
        return found;
    }

    private int depth(String method, ArrayDeque<String> open) {
        check.isTrue("8: " + method + " does not call itself by " + open, !open.contains(method));
        if (open.contains(method)) {
            return DEEPEST + 1;
        }
        open.push(method);
        int deepest = 0;
        Matcher call = CALL.matcher(bodies.get(method));
        while (call.find()) {
            deepest = Math.max(deepest, depthOfCall(method, call.group(1), call.group(2), open));
        }
        open.pop();
        return deepest + 1;
    }

    /** A call of the library counts as one more; words like if and switch stand for no call. */
    private int depthOfCall(String method, String before, String name, ArrayDeque<String> open) {
        String own = method.substring(0, method.indexOf('.') + 1);
        if (before == null && bodies.containsKey(own + name)) {
            return depth(own + name, open);
        }
        int deepest = name.matches("if|for|switch|while|return") ? 0 : 1;
        for (String inside : classes) {
            String other = inside + "." + name;
            if (before != null && !own.equals(inside + ".") && bodies.containsKey(other)) {
                deepest = Math.max(deepest, depth(other, open));
            }
        }
        return deepest;
    }

    private void countFields() {
        for (Class<?> inside : SteepleWords.class.getDeclaredClasses()) {
            countFieldsOf(inside);
        }
        countFieldsOf(SteepleWords.class);
    }

    private void countFieldsOf(Class<?> inside) {
        int fields = 0;
        for (Field f : inside.getDeclaredFields()) {
            fields += Modifier.isStatic(f.getModifiers()) ? 0 : 1;
        }
        check.isTrue("11: " + inside + " has " + fields + " fields", fields <= MOST_FIELDS);
    }
}
