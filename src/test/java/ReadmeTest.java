import java.io.IOException;
import java.nio.file.Files;
import java.nio.file.Path;
import java.util.ArrayList;
import java.util.List;
import java.util.regex.Matcher;
import java.util.regex.Pattern;
import java.util.stream.Stream;

/** README.md: its examples answer as it says, its tables name what there is; run from the project's directory. */
final class ReadmeTest {
    private static final Pattern CALL = Pattern.compile("\\s*x\\.(\\w+)\\((.*)\\);\\s+// ([A-Z]+|-?\\d+): .*");
    private static final Pattern TEXT = Pattern.compile("\\s*String text = \"(.*)\";");
    private static final Pattern LOOP = Pattern.compile("\\s*for \\(int i = 0; i < text.length\\(\\); i\\+\\+\\) \\{");
    private static final Pattern TABLED = Pattern.compile("\\| `(\\w+)\\((.*)\\)` \\|(.*)\\|(.*)\\|");
    private static final Pattern REFUSAL = Pattern.compile("UNKNOWN|OUTSIDE|STATE|FULL|LOST|NULL|CAST|INDEX|SIZE");

    private final Due due = new Due();
    private final List<String> lines;
    private ToothField x = new ToothField();
    private String text = "";

    private ReadmeTest(List<String> lines) {
        this.lines = lines;
    }

    public static void main(String[] args) throws IOException {
        ReadmeTest test = new ReadmeTest(Files.readAllLines(Path.of("README.md")));
        test.examples();
        test.calls();
        test.tests();
        test.due.end();
    }

    /** All examples are of one object, till a line makes a new one. */
    private void examples() {
        boolean inside = false;
        boolean inLoop = false;
        for (String line : lines) {
            if (line.startsWith("```")) {
                inside = line.equals("```java");
            } else if (inside && LOOP.matcher(line).matches()) {
                inLoop = true;
            } else if (inside && inLoop && line.equals("}")) {
                inLoop = false;
            } else if (inside) {
                example(line, inLoop ? text.length() : 1);
            }
        }
    }

    private void example(String line, int times) {
        Matcher told = TEXT.matcher(line);
        Matcher call = CALL.matcher(line);
        if (told.matches()) {
            text = told.group(1);
        } else if (call.matches()) {
            for (int i = 0; i < times; i++) {
                due.is("README: " + line, Calls.answer(x, words(call, i)), number(call.group(3)));
            }
        } else if (line.endsWith("x = new ToothField();")) {
            x = new ToothField();
        } else {
            due.holds("README has an example that is not understood: " + line, false);
        }
    }

    private String words(Matcher call, int i) {
        String arguments = call.group(2).replace("text.length()", Integer.toString(text.length()));
        if (arguments.contains("text.charAt(i)")) {
            arguments = arguments.replace("text.charAt(i)", Integer.toString(text.charAt(i)))
                .replace(" i,", " " + i + ",");
        }
        return (call.group(1) + " " + arguments.replace(",", "")).trim();
    }

    private static long number(String answer) {
        switch (answer) {
            case "UNKNOWN":
                return ToothField.UNKNOWN;
            case "OUTSIDE":
                return ToothField.OUTSIDE;
            case "STATE":
                return ToothField.STATE;
            case "FULL":
                return ToothField.FULL;
            case "NONE":
                return ToothField.NONE;
            case "LOST":
                return ToothField.LOST;
            default:
                return Long.parseLong(answer);
        }
    }

    /** The tables name each call of the face in its order, with as many arguments and the document's refusals. */
    private void calls() {
        Document document = new Document();
        int next = 0;
        for (String line : lines) {
            Matcher row = TABLED.matcher(line);
            if (row.matches() && next < FaceTest.METHODS.length) {
                due.holds("README's next call is " + FaceTest.METHODS[next] + ": " + line, isOf(row, next));
                if (Document.isThere()) {
                    String said = document.part(next + 2).replace("(nothing is no CAST)", "");
                    due.holds("README's refusals are the document's: " + line,
                        refusals(row.group(4)).equals(refusals(said)));
                }
                next++;
            }
        }
        due.is("calls in README's tables", next, FaceTest.METHODS.length);
    }

    private static boolean isOf(Matcher row, int method) {
        String face = FaceTest.METHODS[method];
        return face.contains(" " + row.group(1) + "(") && count(face, ',') == count(row.group(2), ',')
            && face.endsWith("()") == row.group(2).isEmpty();
    }

    private static long count(String in, char sign) {
        return in.chars().filter(c -> c == sign).count();
    }

    private static List<String> refusals(String in) {
        List<String> all = new ArrayList<>();
        Matcher m = REFUSAL.matcher(in);
        while (m.find()) {
            all.add(m.group());
        }
        return all;
    }

    private void tests() throws IOException {
        try (Stream<Path> files = Files.list(Path.of("src/test/java"))) {
            files.map(f -> f.getFileName().toString()).filter(f -> f.endsWith("Test.java")).forEach(f -> {
                String row = "| `" + f.replace(".java", "") + "` |";
                due.holds("README names " + f, lines.stream().anyMatch(line -> line.startsWith(row)));
            });
        }
    }
}
