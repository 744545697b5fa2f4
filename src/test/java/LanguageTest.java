import java.io.IOException;
import java.nio.charset.StandardCharsets;
import java.nio.file.Files;
import java.nio.file.Path;
import java.util.regex.Matcher;
import java.util.regex.Pattern;

/** Those rules of ../shared/LANGUAGE.md that can be seen in the words of the program. */
public final class LanguageTest {
    private static final int LONGEST_METHOD = 60;

    public static void main(String[] args) throws IOException {
        Check check = new Check("LanguageTest");
        Path root = Path.of(args.length > 0 ? args[0] : ".");
        String source = Files.readString(root.resolve("src/main/java/SteepleWords.java"), StandardCharsets.ISO_8859_1);
        String code = source.replaceAll("(?s)/\\*.*?\\*/", " ").replaceAll("//[^\n]*", " ");
        check.isTrue("4: signs 1 to 127", code.chars().allMatch(c -> c >= 1 && c <= 127));
        for (String word : new String[] {"package", "catch", "try", "finally", "synchronized", "assert", "instanceof",
            "volatile", "native", "transient", "System.out", "Exact", "Random", "currentTimeMillis", "nanoTime", "Thread",
            "hashCode", "equals", "toString", "Object", "double", "float", "var"}) {
            check.isTrue("no " + word, !has(code, "\\b" + Pattern.quote(word) + "\\b"));
        }
        check.isTrue("2: no lambda, no method reference", !has(code, "->|::"));
        check.isTrue("4: no import but Arrays", !has(code, "import (?!java\\.util\\.Arrays;)"));
        check.isTrue("4: only what is listed of the library", !has(code, "\\b(Arrays|Math|System)\\.(?!fill\\(|min\\(|max\\(|floorDiv\\(|arraycopy\\()"));
        check.isTrue("6: every throw is of a new exception with a written text",
                !has(code, "\\bthrow (?!new (IllegalState|IllegalArgument|IndexOutOfBounds)Exception\\(\"[^\"]*\"\\);)"));
        check.isTrue("9: no loop but for", !has(code, "\\b(while|do)\\b"));
        check.isTrue("9: every for has its bound", !has(code, "for \\([^)]*;\\s*;|for \\(;;"));
        check.isTrue("5: every static field is final", !has(code, "static (?!final )[\\w\\[\\]]+ \\w+( =|;)"));
        check.isTrue("12: new only in fields and constructors, and with throw",
                count(code, "\\bnew (?!\\w+Exception\\()") == count(code, "private final [\\w\\[\\]]+ \\w+ = new ")
                        + count(code, "\\w+\\[i\\] = new Parish\\(\\)"));
        methodsAreShort(check, code);
        check.end();
    }

    private static void methodsAreShort(Check check, String code) {
        String[] lines = code.split("\n");
        String indent = null;
        int start = 0;
        for (int i = 0; i < lines.length; i++) {
            Matcher head = Pattern.compile("^( {4,8})[\\w\\[\\]][^;=]*\\)?.*\\{$").matcher(lines[i]);
            if (head.find() && lines[i].indexOf('(') > 0 && indent == null) {
                indent = head.group(1);
                start = i;
            }
            if (indent != null && lines[i].equals(indent + "}")) {
                check.isTrue("11: the method in line " + (start + 1) + " is short", i - start < LONGEST_METHOD);
                indent = null;
            }
        }
        check.isTrue("11: the last method has an end", indent == null);
    }

    private static boolean has(String code, String pattern) {
        return Pattern.compile(pattern).matcher(code).find();
    }

    private static int count(String code, String pattern) {
        Matcher matcher = Pattern.compile(pattern).matcher(code);
        int count = 0;
        while (matcher.find()) {
            count++;
        }
        return count;
    }
}
