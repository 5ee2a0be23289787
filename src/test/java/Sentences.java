import java.io.IOException;
import java.nio.file.Files;
import java.nio.file.Path;
import java.util.LinkedHashMap;
import java.util.Map;

/** The sentences of the document: each test names the one that it holds the class to. */
final class Sentences {
    private static final Path DOCUMENT = Path.of("../shared/DOC.md");
    private static final String TERMS = "Terms";

    private final Check c;
    private final Map<String, String> sections = new LinkedHashMap<>();
    private final Map<String, boolean[]> named = new LinkedHashMap<>();

    Sentences(Check c) throws IOException {
        this.c = c;
        for (String part : Files.readString(DOCUMENT).split("(?m)^## ")) {
            String heading = part.lines().findFirst().orElse("").replaceAll(":.*", "");
            if (heading.equals(TERMS) || heading.startsWith("Promise ")) {
                String body = bodyOf(part);
                sections.put(heading, body);
                named.put(heading, new boolean[body.length()]);
            }
        }
    }

    /** A run of calls for a sentence of a promise. */
    Run of(int promise, String quote) {
        return runFor("Promise " + promise, quote);
    }

    Run ofTerms(String quote) {
        return runFor(TERMS, quote);
    }

    /** Each letter of each promise, and of the terms, stands in a sentence that has a test. */
    void finish() {
        c.due("sections of the document", sections.size(), 40);
        for (String heading : sections.keySet()) {
            String body = sections.get(heading);
            StringBuilder missed = new StringBuilder();
            for (int i = 0; i < body.length(); i++) {
                if (Character.isLetter(body.charAt(i)) && !named.get(heading)[i]) {
                    missed.append(body.charAt(i));
                }
            }
            c.due(heading + ": letters without a test (" + missed + ")", missed.length(), 0);
        }
    }

    private Run runFor(String heading, String quote) {
        String body = sections.getOrDefault(heading, "");
        int at = body.indexOf(quote);
        c.due(heading + " says '" + quote + "'", at >= 0 ? 1 : 0, 1);
        while (at >= 0) {
            for (int i = 0; i < quote.length(); i++) {
                named.get(heading)[at + i] = true;
            }
            at = body.indexOf(quote, at + 1);
        }
        return new Run(c, heading + ", '" + quote + "'");
    }

    /** What a section says, in one line: without its heading, the call's form, and fences. */
    private static String bodyOf(String part) {
        return part.replaceFirst("[^\n]*\n", "").replaceAll("(?m)^```.*$", "")
                .replaceAll("(?m)^Ahead of the calls.*$", "").replaceFirst("\\s*`[^`]*`: ", "")
                .replaceAll("\\s+", " ").trim();
    }
}
