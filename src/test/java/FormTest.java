import java.io.IOException;
import java.lang.reflect.Constructor;
import java.lang.reflect.Field;
import java.lang.reflect.Member;
import java.lang.reflect.Method;
import java.lang.reflect.Modifier;
import java.nio.file.Files;
import java.nio.file.Path;
import java.util.Set;
import java.util.TreeSet;
import java.util.regex.Matcher;
import java.util.regex.Pattern;

/** The face of the class as the document gives it, and what LANGUAGE.md rules out of its text. */
public final class FormTest {
    private static final Path SOURCE = Path.of("src/main/java/SumBlocks.java");
    private static final Path DOCUMENT = Path.of("../shared/DOC.md");
    private static final String[] FACE = {
        "int begin(int) IllegalArgumentException",
        "int want(int) IllegalArgumentException IllegalStateException",
        "int give(int) IllegalArgumentException",
        "int giveAll()",
        "int grow(int,int) IllegalArgumentException IllegalStateException",
        "int shrink(int,int) IllegalArgumentException",
        "int set(int,int) IndexOutOfBoundsException IllegalArgumentException",
        "int append(int) IllegalArgumentException IllegalStateException",
        "int clearBuffer()",
        "int firstError()",
        "int run() IllegalArgumentException",
        "int undo() IllegalStateException",
        "int size(int) IllegalArgumentException",
        "int block(int,int) IndexOutOfBoundsException IllegalArgumentException",
        "int use(int,int) IndexOutOfBoundsException IllegalArgumentException",
        "int at(int) IndexOutOfBoundsException",
        "int many(int,boolean) IllegalArgumentException",
        "int count(int) IllegalArgumentException",
        "int setting(int) IndexOutOfBoundsException",
        "int ifWanted(int,int) IllegalArgumentException",
        "int ifGiven(int) IndexOutOfBoundsException",
        "int reach(int) IndexOutOfBoundsException",
        "int blocker()",
        "int byWay(int) IndexOutOfBoundsException",
        "double wasteShare()",
        "long digest()"};

    // Words and signs that no rule of LANGUAGE.md lets into the program.
    private static final String[] RULED_OUT = {"\\bimport\\b", "\\bpackage\\b", "->", "::", "\\btry\\b",
        "\\bcatch\\b", "\\bfinally\\b", "\\bassert\\b", "\\bsynchronized\\b", "Exact\\b", "\\bSystem\\.(?!arraycopy)",
        "\\bDouble\\b", "\\bThread\\b", "\\bequals\\b", "\\bhashCode\\b", "\\btoString\\b", "\\brecord\\b",
        "\\bvar\\b", "static \\{", "while \\(true\\)", "for \\(;;\\)"};

    private static void face() {
        Set<String> due = new TreeSet<>(Set.of(FACE));
        Set<String> got = new TreeSet<>();
        for (Method method : SumBlocks.class.getDeclaredMethods()) {
            if (isSeen(method)) {
                got.add(signature(method));
                Checks.due(0, method + " is static", Modifier.isStatic(method.getModifiers()) ? 1 : 0, 0);
            }
        }
        Checks.due(0, "the methods", got.toString(), due.toString());
        for (Field field : SumBlocks.class.getDeclaredFields()) {
            if (isSeen(field)) {
                Checks.due(0, "the only constant", field.toString(), "public static final int SumBlocks.NONE");
            }
        }
        Checks.due(0, "NONE", SumBlocks.NONE, -1);
        Constructor<?>[] constructors = SumBlocks.class.getDeclaredConstructors();
        Checks.due(0, "how many constructors", constructors.length, 1);
        Checks.due(0, "the constructor", constructors[0].toString(), "public SumBlocks()");
        Checks.due(0, "the class", Modifier.toString(SumBlocks.class.getModifiers()), "public final");
    }

    private static boolean isSeen(Member member) {
        return !Modifier.isPrivate(member.getModifiers()) && !member.isSynthetic();
    }

    private static String signature(Method method) {
        StringBuilder text = new StringBuilder(method.getReturnType().getSimpleName());
        text.append(' ').append(method.getName()).append('(');
        for (int index = 0; index < method.getParameterCount(); index++) {
            text.append(index == 0 ? "" : ",").append(method.getParameterTypes()[index].getSimpleName());
        }
        text.append(')');
        for (Class<?> thrown : method.getExceptionTypes()) {
            text.append(' ').append(thrown.getSimpleName());
        }
        return text.toString();
    }

    private static void privateNames() {
        Set<String> names = new TreeSet<>();
        for (Method method : SumBlocks.class.getMethods()) {
            names.add(method.getName());
        }
        for (Method method : SumBlocks.class.getDeclaredMethods()) {
            if (Modifier.isPrivate(method.getModifiers())) {
                Checks.due(0, method + " bears a public name", names.contains(method.getName()) ? 1 : 0, 0);
            }
        }
        for (Class<?> inside : SumBlocks.class.getDeclaredClasses()) {
            String kind = Modifier.toString(inside.getModifiers());
            Checks.due(0, inside.getName(), kind, "private static final");
        }
    }

    /** The lines of the document's face stand in the program in their order, names and all. */
    private static void documentFace() throws IOException {
        if (!Files.exists(DOCUMENT)) {
            System.out.println("there is no " + DOCUMENT + " to compare with");
            return;
        }
        String document = Files.readString(DOCUMENT);
        String source = Files.readString(SOURCE);
        int start = document.indexOf("```java\n");
        int end = document.indexOf("\n```", start + 1);
        Checks.due(0, "the document has a face", start >= 0 && end > start ? 1 : 0, 1);
        String[] lines = document.substring(start + 8, end).split("\n");
        Checks.due(0, "how many lines the face has", lines.length, FACE.length + 4);
        int at = 0;
        for (String line : lines) {
            boolean isCall = line.contains("(") && line.endsWith(";");
            String due = isCall ? line.substring(0, line.length() - 1) + " {" : line;
            int found = source.indexOf(due + "\n", at);
            Checks.due(0, "where the program has: " + line, found < 0 ? "nowhere behind the line before" : "", "");
            at = Math.max(at, found);
        }
    }

    /** "Ahead of the calls .. the interface says: ..": the program has the same heads. */
    private static void documentHeads() throws IOException {
        if (!Files.exists(DOCUMENT)) {
            return;
        }
        String source = Files.readString(SOURCE);
        Matcher head = Pattern.compile("(?m)^Ahead of the calls (.*) the interface says: (----.*)\\.$")
                .matcher(Files.readString(DOCUMENT));
        int heads = 0;
        while (head.find()) {
            heads++;
            int at = source.indexOf("// " + head.group(2) + "\n");
            Checks.due(0, "the program says " + head.group(2), at >= 0 ? 1 : 0, 1);
            int next = source.indexOf("// ----", Math.max(at, 0) + 1);
            for (String call : head.group(1).split(", ")) {
                int found = source.indexOf(" " + call.replace("`", "") + "(", Math.max(at, 0));
                Checks.due(0, call + " stands there", found >= 0 && (next < 0 || found < next) ? 1 : 0, 1);
            }
        }
        Checks.due(0, "how many heads there are", heads, 4);
    }

    private static void text() throws IOException {
        String source = Files.readString(SOURCE);
        String code = source.replaceAll("(?s)/\\*.*?\\*/", "").replaceAll("//[^\n]*", "")
                .replaceAll("\"[^\"\n]*\"", "\"\"");
        for (String ruledOut : RULED_OUT) {
            Matcher found = Pattern.compile(ruledOut).matcher(code);
            Checks.due(0, "what " + ruledOut + " finds", found.find() ? found.group() : "", "");
        }
        int line = 0;
        int start = 0;
        for (String row : source.split("\n")) {
            line++;
            if (row.matches(" {4}( {4})?[a-z].*\\) ?(throws .*)?\\{") && !row.contains("=")) {
                start = line;
            }
            if (row.matches(" {4}( {4})?\\}") && start > 0) {
                Checks.due(0, "too long: the method from line " + start, line - start > 60 ? 1 : 0, 0);
            }
        }
    }

    public static void main(String[] args) throws IOException {
        face();
        documentFace();
        documentHeads();
        privateNames();
        text();
        Checks.end();
    }
}
