import java.io.IOException;
import java.nio.file.Files;
import java.nio.file.Path;
import java.util.regex.Matcher;
import java.util.regex.Pattern;

/** The document's terms and promises, and how much of them has been quoted; read from the project's directory. */
final class Document {
    static final int TERMS = 0;
    static final int PROMISES = 38;
    private static final Path PLACE = Path.of("../shared/DOC.md");

    private final String[] said = new String[PROMISES + 1];
    private final boolean[][] quoted = new boolean[PROMISES + 1][];

    Document() {
        if (!isThere()) {
            return;
        }
        String text = read();
        int terms = text.indexOf("\n## Terms");
        int promises = text.indexOf("\n## Promise 1:");
        said[TERMS] = plain(text.substring(terms + "\n## Terms".length(), promises));
        Matcher m = Pattern.compile("\n## Promise (\\d+): .*\n\n`[^`]*`: (.*)\n").matcher(text);
        while (m.find()) {
            said[Integer.parseInt(m.group(1))] = plain(m.group(2));
        }
        for (int part = TERMS; part <= PROMISES; part++) {
            quoted[part] = new boolean[said[part].length()];
        }
    }

    /** Without it the answers can be looked at still, the quotes can't. */
    static boolean isThere() {
        return Files.isReadable(PLACE);
    }

    /** What the terms (part 0), or a promise (by its number), say. */
    String part(int part) {
        return said[part];
    }

    /** Whether the terms (part 0), or a promise (by its number), say this; it counts as quoted then. */
    boolean says(int part, String quote) {
        int at = said[part].indexOf(quote);
        if (at < 0) {
            return false;
        }
        for (int c = at; c < at + quote.length(); c++) {
            quoted[part][c] = true;
        }
        return true;
    }

    /** The words of a part that nobody quoted. */
    String notQuoted(int part) {
        StringBuilder rest = new StringBuilder();
        for (int c = 0; c < said[part].length(); c++) {
            rest.append(quoted[part][c] ? ' ' : said[part].charAt(c));
        }
        return rest.toString().replaceAll("[^A-Za-z]+", " ").trim();
    }

    private static String plain(String text) {
        return text.replaceAll("(?m)^Ahead of the calls .*$", "").replaceAll("```(text)?", "")
            .replaceAll("(?m)^==== ", "").replaceAll("\\s+", " ").trim();
    }

    private static String read() {
        try {
            return Files.readString(PLACE);
        } catch (IOException e) {
            throw new IllegalStateException("the document is not at " + PLACE, e);
        }
    }
}
