import java.io.IOException;
import java.nio.charset.StandardCharsets;
import java.nio.file.Files;
import java.nio.file.Path;
import java.util.ArrayList;
import java.util.List;

/** ../shared/DOC.md, taken apart into what stands ahead of the promises and the promises themselves. */
final class Document {
    static final int PROMISES = 28;

    private final String[] parts = new String[PROMISES + 1];

    Document(Path root) throws IOException {
        String whole = Files.readString(root.resolve("../shared/DOC.md"), StandardCharsets.UTF_8);
        int start = 0;
        for (int promise = 0; promise <= PROMISES; promise++) {
            String next = promise < PROMISES ? "## Promise " + (promise + 1) + ":" : "## Not promised";
            int end = whole.indexOf(next, start);
            if (end < 0) {
                throw new IOException("no '" + next + "' in DOC.md");
            }
            parts[promise] = whole.substring(start, end);
            start = end;
        }
    }

    private static String inOneLine(String words) {
        return words.replaceAll("\\s+", " ").trim();
    }

    /** Whether the promise, or what stands ahead of all promises, says these words. */
    boolean says(int promise, String words) {
        return inOneLine(parts[promise]).contains(inOneLine(words)) || inOneLine(parts[0]).contains(inOneLine(words));
    }

    /** The lines of a promise that tell an exception, or numbers that an argument may be. */
    List<String> limits(int promise) {
        List<String> limits = new ArrayList<>();
        for (String line : parts[promise].split("\n")) {
            if (line.startsWith("Throws `") || line.matches("- `.*[0-9].*")) {
                limits.add(inOneLine(line));
            }
        }
        return limits;
    }
}
