import java.io.File;
import java.io.IOException;
import java.net.URL;
import java.net.URLClassLoader;
import java.nio.file.Files;
import java.nio.file.Path;
import java.util.ArrayList;
import java.util.List;
import java.util.regex.Matcher;
import java.util.regex.Pattern;
import javax.tools.ToolProvider;

/**
 * What README.md shows: its Java is compiled and run as it stands there, and each answer behind // is
 * that of the class. Each call of the document is named there with its promise.
 */
public final class ReadmeTest {
    private static final Path README = Path.of("README.md"), DOCUMENT = Path.of("../shared/DOC.md");
    private static final Pattern ANSWERED =
            Pattern.compile("(\\w.*);\\s+// (-?\\d+|BAD|STATE|FULL|NONE)(: .*)?");
    private static final String MADE = "TenPledges x = new TenPledges();";
    private static final int BLOCKS_LEAST = 6, ANSWERS_LEAST = 60;
    private static final Check c = new Check();
    private static int answers;

    public static void main(String[] args) throws IOException, ReflectiveOperationException {
        runAll(sourceOf(Files.readAllLines(README)));
        c.due("answers that README.md shows are enough", answers >= ANSWERS_LEAST ? 1 : 0, 1);
        calls(Files.readString(README), Files.readString(DOCUMENT));
        constants(Files.readString(README));
        c.finish();
    }

    /** Called by what is made of README.md. */
    public static void due(String shown, long got, long want) {
        answers++;
        c.due("README.md, " + shown, got, want);
    }

    /** A class of all the Java in README.md: a method for each block, but for those that are methods. */
    private static String sourceOf(List<String> lines) {
        StringBuilder source = new StringBuilder("public final class Shown {\n");
        List<String> block = null;
        int blocks = 0;
        for (int i = 0; i < lines.size(); i++) {
            String line = lines.get(i);
            if (line.equals("```java")) {
                block = new ArrayList<>();
            } else if (line.equals("```") && block != null) {
                boolean isMethod = block.get(0).startsWith("static ");
                source.append(isMethod ? "" : "public static void block" + blocks++ + "() {\n");
                source.append(String.join("\n", block)).append(isMethod ? "\n" : "\n}\n");
                block = null;
            } else if (block != null) {
                boolean isIn = !block.isEmpty() && block.get(0).startsWith("static ");
                block.add(isIn || line.startsWith("static ") ? line : checked(line, i + 1));
            }
        }
        c.due("README.md: blocks of Java are enough", blocks >= BLOCKS_LEAST ? 1 : 0, 1);
        return source.append("}\n").toString();
    }

    /** A line that shows a call with its answer becomes one that holds them side by side. */
    private static String checked(String line, int number) {
        Matcher found = ANSWERED.matcher(line);
        if (!found.matches()) {
            c.due("README.md, line " + number + " shows an answer: " + line, line.equals(MADE) ? 1 : 0, 1);
            return line;
        }
        String call = found.group(1);
        String want = found.group(2);
        String shown = "line " + number + ": " + call.replace("\"", "'");
        boolean isNumber = Character.isDigit(want.charAt(want.length() - 1));
        String constant = isNumber ? want : "TenPledges." + want;
        return "ReadmeTest.due(\"" + shown + "\", " + call + ", " + constant + ");";
    }

    private static void runAll(String source) throws IOException, ReflectiveOperationException {
        Path folder = Files.createTempDirectory("shown");
        Path file = Files.writeString(folder.resolve("Shown.java"), source);
        try {
            int failed = ToolProvider.getSystemJavaCompiler().run(null, null, null, "-d", folder.toString(),
                    "-cp", System.getProperty("java.class.path"), file.toString());
            c.due("the Java in README.md compiles", failed, 0);
            if (failed == 0) {
                runBlocks(folder);
            }
        } finally {
            for (File left : folder.toFile().listFiles()) {
                left.delete();
            }
            Files.delete(folder);
        }
    }

    private static void runBlocks(Path folder) throws IOException, ReflectiveOperationException {
        URL[] places = {folder.toUri().toURL()};
        try (URLClassLoader loader = new URLClassLoader(places, ReadmeTest.class.getClassLoader())) {
            for (var method : loader.loadClass("Shown").getMethods()) {
                if (method.getName().startsWith("block")) {
                    method.invoke(null);
                }
            }
        }
    }

    private static void calls(String readme, String document) {
        Matcher found = Pattern.compile("(?m)^## Promise (\\d+): (\\w+)$").matcher(document);
        int promises = 0;
        while (found.find()) {
            promises++;
            String entry = "`" + found.group(2) + "` (" + found.group(1) + ")";
            c.due("README.md names " + entry, readme.contains(entry) ? 1 : 0, 1);
        }
        c.due("calls of the document", promises, 38);
    }

    private static void constants(String readme) {
        int[] values = {TenPledges.BAD, TenPledges.STATE, TenPledges.FULL, TenPledges.NONE};
        String[] names = {"BAD", "STATE", "FULL", "NONE"};
        for (int i = 0; i < values.length; i++) {
            String row = "| " + values[i] + " | `" + names[i] + "` |";
            c.due("README.md has the row " + row, readme.contains(row) ? 1 : 0, 1);
        }
    }
}
