import java.io.IOException;
import java.nio.file.DirectoryStream;
import java.nio.file.Files;
import java.nio.file.Path;
import java.util.Arrays;
import java.util.regex.Matcher;
import java.util.regex.Pattern;

/**
 * Each sentence of the document is quoted by a test of its own, Checks.says(..), and each quotation is
 * found in the document, under the promise that it names.
 */
public final class EdgesIndexTest {
    private static final Path DOCUMENT = Path.of("../shared/DOC.md");
    private static final Pattern QUOTATION =
            Pattern.compile("says\\((\\d+),\\s*(\"(?:[^\"\\\\]|\\\\.)*\"(?:\\s*\\+\\s*\"(?:[^\"\\\\]|\\\\.)*\")*)\\)");
    // What names no sentence: headings, the face, the signature ahead of what a method does.
    private static final Pattern NO_SENTENCE =
            Pattern.compile("(?m)^(#.*|Sizes, blocks|Growing, making smaller|Ahead of the calls .*|`[^`]*`:|- )");

    private static String[] sections(String document) {
        String[] sections = new String[28];
        sections[0] = between(document, "An object is used for", "## The public face")
                + between(document, "## Terms", "## Promise 1:");
        for (int promise = 1; promise <= 27; promise++) {
            String next = promise == 27 ? "## Not promised" : "## Promise " + (promise + 1) + ":";
            sections[promise] = between(document, "## Promise " + promise + ":", next);
        }
        return sections;
    }

    private static String between(String text, String start, String end) {
        int from = text.indexOf(start);
        int to = text.indexOf(end);
        return from < 0 || to < from ? "" : text.substring(from, to);
    }

    private static void cover(boolean[] covered, int from, int to) {
        Arrays.fill(covered, from, to, true);
    }

    /** Marks the places of the quotation; answers how many there are. */
    private static int coverAll(String section, boolean[] covered, String quotation) {
        int found = 0;
        for (int at = section.indexOf(quotation); at >= 0; at = section.indexOf(quotation, at + 1)) {
            cover(covered, at, at + quotation.length());
            found++;
        }
        return found;
    }

    private static String uncovered(String section, boolean[] covered) {
        StringBuilder left = new StringBuilder();
        for (int index = 0; index < section.length(); index++) {
            left.append(covered[index] ? ' ' : section.charAt(index));
        }
        return left.toString().trim().replaceAll("\\s+", " ");
    }

    private static String unescaped(String literals) {
        return literals.replaceAll("\"\\s*\\+\\s*\"", "").replaceAll("^\"|\"$", "").replace("\\\"", "\"");
    }

    private static String allTests() throws IOException {
        StringBuilder all = new StringBuilder();
        try (DirectoryStream<Path> files = Files.newDirectoryStream(Path.of("src/test/java"), "EdgesOf*.java")) {
            for (Path file : files) {
                all.append(Files.readString(file));
            }
        }
        return all.toString();
    }

    private static void index() throws IOException {
        String[] sections = sections(Files.readString(DOCUMENT));
        boolean[][] covered = new boolean[28][];
        for (int promise = 0; promise <= 27; promise++) {
            covered[promise] = new boolean[sections[promise].length()];
            Matcher free = NO_SENTENCE.matcher(sections[promise]);
            while (free.find()) {
                // A parameter or the constant begins with its name: that belongs to the sentence.
                boolean isName = free.group().matches("`[a-zA-Z]+`:|`NONE.*");
                cover(covered[promise], free.start(), isName ? free.start() : free.end());
            }
        }
        Matcher quotation = QUOTATION.matcher(allTests());
        while (quotation.find()) {
            int promise = Integer.parseInt(quotation.group(1));
            String words = unescaped(quotation.group(2));
            int found = coverAll(sections[promise], covered[promise], words);
            Checks.due(promise, "how often the document says: " + words, Math.min(found, 1), 1);
        }
        for (int promise = 0; promise <= 27; promise++) {
            Checks.due(promise, "what no test quotes", uncovered(sections[promise], covered[promise]), "");
        }
    }

    public static void main(String[] args) throws IOException {
        if (Files.exists(DOCUMENT)) {
            index();
        } else {
            System.out.println("there is no " + DOCUMENT + " to compare with");
        }
        Checks.end();
    }
}
