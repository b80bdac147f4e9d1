import java.io.IOException;
import java.io.UncheckedIOException;
import java.nio.file.Files;
import java.nio.file.Path;
import java.util.ArrayList;
import java.util.List;

/** ../shared/DOC.md, read so that tests can show that they leave no sentence out. */
final class Document {
    private static final Path FILE = Path.of("../shared/DOC.md");

    private final String text;

    Document() {
        try {
            text = Files.readString(FILE);
        } catch (IOException e) {
            throw new UncheckedIOException(e);
        }
    }

    /** What stands under a heading, without fences, list numbers, signatures and lines on the layout. */
    Part part(String heading) {
        int start = text.indexOf("\n## " + heading + "\n");
        if (start < 0) {
            throw new IllegalStateException("no heading " + heading + " in " + FILE);
        }
        int from = start + heading.length() + 5;
        int end = text.indexOf("\n## ", from);
        String words = text.substring(from, end < 0 ? text.length() : end)
            .replaceAll("```\\w*", " ")
            .replaceAll("(?m)^\\d+\\. ", "")
            .replaceAll("(?m)^`[^`]*\\)`: ", "")
            .replaceAll("(?m)^Ahead of the calls .*$", "");
        return new Part(oneLine(words));
    }

    /** The number and the name of each promise, as its heading has them. */
    List<String> promises() {
        List<String> headings = new ArrayList<>();
        for (String line : text.split("\n")) {
            if (line.startsWith("## Promise ")) {
                headings.add(line.substring(3));
            }
        }
        return headings;
    }

    private static String oneLine(String words) {
        return words.replaceAll("\\s+", " ").trim();
    }

    /** One part of the document, and what of it has been quoted. */
    static final class Part {
        private final String words;
        private final boolean[] quoted;

        private Part(String words) {
            this.words = words;
            quoted = new boolean[words.length()];
        }

        /** Whether the quote stands in this part; marks it. */
        boolean quote(String quote) {
            String line = oneLine(quote);
            int at = words.indexOf(line);
            if (at < 0) {
                return false;
            }
            for (int i = at; i < at + line.length(); i++) {
                quoted[i] = true;
            }
            return true;
        }

        /** The words that no quote had; empty if all are quoted. */
        String left() {
            StringBuilder left = new StringBuilder();
            for (int i = 0; i < quoted.length; i++) {
                left.append(quoted[i] ? ' ' : words.charAt(i));
            }
            return oneLine(left.toString()).replaceAll("^\\W+$", "");
        }
    }
}
