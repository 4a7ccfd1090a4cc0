import java.io.IOException;
import java.nio.file.Files;
import java.nio.file.Path;
import java.util.ArrayList;
import java.util.List;

/** The sentence of the document that a test stands for: it heads what the test prints. */
final class Doc {
    private static final Path FILE = Path.of("../shared/DOC.md");

    private static final List<String[]> quoted = new ArrayList<>();
    private static String where = "";

    private Doc() {
    }

    static String where() {
        return where;
    }

    /** What is looked at from here on is what these words of a part ask for. */
    static void says(String part, String words) {
        where = part + ", \"" + words + "\"";
        quoted.add(new String[] {part, words});
    }

    /**
     * Prints which quotes the document does not bear and what of these parts no test quotes.
     * A reader's help alone: other words in the document break no promise, so no test fails by it.
     */
    static void compare(String... parts) throws IOException {
        String text = Files.readString(FILE);
        for (String part : parts) {
            String left = partOf(text, part);
            for (String[] quote : quoted) {
                if (quote[0].equals(part)) {
                    if (!partOf(text, part).contains(quote[1])) {
                        System.out.println("not in the document, " + part + ": " + quote[1]);
                    }
                    left = left.replace(quote[1], " ~ ");
                }
            }
            System.out.println("not quoted, " + part + ": " + left.replaceAll("\\s+", " "));
        }
    }

    private static String partOf(String text, String part) {
        int from = text.indexOf(part);
        if (from < 0) {
            return "";
        }
        int to = text.length();
        for (String head : new String[] {"\n## ", "\n==== ", "\nAhead of the calls"}) {
            int at = text.indexOf(head, from + part.length());
            to = at >= 0 && at < to ? at : to;
        }
        return text.substring(from, to);
    }
}
