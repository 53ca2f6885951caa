import java.io.IOException;
import java.nio.file.Files;
import java.nio.file.Path;

/** The example in README.md: each of its calls answers the number that stands behind it. */
public final class ReadmeTest {
    private static String[] rows;
    private static int next = 0;

    private static void readExample() throws IOException {
        String readme = Files.readString(Path.of("README.md"));
        int start = readme.indexOf("```java\n");
        int end = readme.indexOf("\n```", start + 1);
        Checks.due(0, "README.md has an example", start >= 0 && end > start ? 1 : 0, 1);
        rows = start >= 0 && end > start ? readme.substring(start + 8, end).split("\n") : new String[0];
    }

    /** The next row of the example is this call, and the number behind it is the answer. */
    private static void row(String call, long answer) {
        String row = next < rows.length ? rows[next] : "";
        next++;
        String expected = call + "; // " + answer + " ";
        String found = row.replaceAll(";\\s+//", "; //");
        if (!found.startsWith(expected)) {
            Checks.tell(0, row, "\"" + expected.trim() + "\"", "what the row says");
        }
        Checks.due(0, "the row of " + call, found.startsWith(expected) ? 1 : 0, 1);
    }

    private static void plainRow(String text) {
        Checks.due(0, "a row of the example", next < rows.length ? rows[next] : "", text);
        next++;
    }

    private static void example() {
        plainRow("SumBlocks memory = new SumBlocks();");
        SumBlocks memory = new SumBlocks();
        row("memory.count(0)", memory.count(0));
        row("memory.ifWanted(4, 2)", memory.ifWanted(4, 2));
        row("memory.want(4)", memory.want(4));
        row("memory.use(0, 2)", memory.use(0, 2));
        row("memory.give(0)", memory.give(0));
        row("memory.set(1, 1)", memory.set(1, 1));
        row("memory.want(10)", memory.want(10));
        row("memory.reach(0)", memory.reach(0));
        row("memory.grow(0, 30)", memory.grow(0, 30));
        row("memory.shrink(0, 3)", memory.shrink(0, 3));
        row("memory.undo()", memory.undo());
        row("memory.use(0, 1)", memory.use(0, 1));
        plainRow("for (char letter : \"w8;g0\".toCharArray()) {");
        plainRow("    memory.append(letter);");
        plainRow("}");
        for (char letter : "w8;g0".toCharArray()) {
            memory.append(letter);
        }
        row("memory.firstError()", memory.firstError());
        row("memory.run()", memory.run());
        row("memory.block(0, 3)", memory.block(0, 3));
        Checks.due(0, "how many rows the example has", rows.length, next);
    }

    public static void main(String[] args) throws IOException {
        readExample();
        example();
        Checks.end();
    }
}
