import java.io.IOException;
import java.nio.file.Files;
import java.nio.file.Path;
import java.util.List;
import java.util.regex.Matcher;
import java.util.regex.Pattern;

/** Words and measures in the source that LANGUAGE.md rules out; run from the project's directory. */
final class LanguageTest {
    private static final Path SOURCE = Path.of("src/main/java/ToothField.java");
    private static final String[] RULED_OUT = {
        "\\b(throw|throws|try|catch|synchronized|assert|import|package|volatile|native|transient)\\b", "->", "::",
        "\\bstatic\\s*\\{", "Exact\\b", "\\b(System\\.(?!arraycopy)\\w+|Thread|Object|Random|Exception|Error)\\b",
        "\\b(hashCode|toString|equals|getClass)\\b", "\\bwhile\\s*\\(\\s*true", "\\bfor\\s*\\(\\s*;",
        "\\bprotected\\b"};

    private LanguageTest() {
    }

    public static void main(String[] args) throws IOException {
        Due due = new Due();
        String code = Files.readString(SOURCE).replaceAll("(?s)/\\*.*?\\*/", "").replaceAll("//[^\n]*", "");
        for (String word : RULED_OUT) {
            Matcher found = Pattern.compile(word).matcher(code);
            due.holds("no " + word, !found.find());
        }
        due.holds("signs 1 to 127 alone", code.chars().allMatch(c -> c > 0 && c < 128));
        methods(due, List.of(Files.readString(SOURCE).split("\n")));
        due.end();
    }

    /** A method begins with a line that ends its head with "{", and ends with "}" at the same depth. */
    private static void methods(Due due, List<String> lines) {
        Pattern head = Pattern.compile("( {4}| {8})(public|private) [^=;]*\\(([^)]*)\\) \\{");
        for (int from = 0; from < lines.size(); from++) {
            Matcher m = head.matcher(lines.get(from));
            if (!m.matches()) {
                continue;
            }
            int to = from;
            while (to < lines.size() && !lines.get(to).equals(m.group(1) + "}")) {
                to++;
            }
            due.holds("at most sixty lines: " + lines.get(from).trim(), to - from < 60);
            boolean isConstructor = lines.get(from).matches(" +(public|private) \\w+\\(.*");
            due.holds("makes nothing, so that no run fills the room: " + lines.get(from).trim(),
                isConstructor || String.join("\n", lines.subList(from, to)).indexOf(" new ") < 0);
            due.holds("at most seven parameters: " + lines.get(from).trim(), m.group(3).split(",").length <= 7);
        }
    }
}
