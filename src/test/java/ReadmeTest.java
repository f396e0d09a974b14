import java.io.IOException;
import java.nio.file.Files;
import java.nio.file.Path;
import java.util.ArrayList;
import java.util.List;
import java.util.regex.Matcher;
import java.util.regex.Pattern;
import java.util.stream.Stream;

/** README.md: each call in the document's words, an example that answers as it says, the commands of .ci/run. */
public final class ReadmeTest {
    private static final Due due = new Due();
    private static final Path DOCUMENT = Path.of("../shared/DOC.md");

    public static void main(String[] args) throws IOException {
        List<String> lines = Files.readAllLines(Path.of("README.md"));
        String document = Files.isReadable(DOCUMENT) ? Files.readString(DOCUMENT) : "";
        if (!document.isEmpty()) {
            calls(lines, document);
            quotes(lines, document);
        }
        example(block(lines, "```java"));
        commands(block(lines, "```sh"), Files.readAllLines(Path.of(".ci/run")));
        tests(lines);
        due.end("ReadmeTest");
    }

    private static void stands(String what, boolean stands) {
        due.is("README.md: " + what, stands ? 1 : 0, 1);
    }

    /** Promise 1 is about the constructor, which is told ahead of the calls. */
    private static void calls(List<String> lines, String document) {
        Pattern promise = Pattern.compile("(?m)^## Promise (\\d+): .*\n\n(`[^`]*`): (.*)$");
        Matcher found = promise.matcher(document);
        int promises = 0;
        while (found.find()) {
            promises++;
            boolean made = found.group(2).equals("`OnePlan()`");
            String row = made ? "> " + found.group(3)
                : "| " + found.group(1) + " | " + found.group(2) + " | " + found.group(3) + " |";
            stands(row, lines.contains(row));
        }
        due.is("promises of the document", promises, 34);
    }

    private static void quotes(List<String> lines, String document) {
        int quotes = 0;
        for (String line : lines) {
            if (line.startsWith("> ")) {
                quotes++;
                stands("not the document's words: " + line, document.contains(line.substring(2)));
            }
        }
        stands("quotes", quotes > 0);
    }

    private static List<String> block(List<String> lines, String begin) {
        int from = lines.indexOf(begin) + 1;
        stands("a block " + begin, from > 0);
        List<String> rest = lines.subList(from, lines.size());
        return rest.subList(0, Math.max(0, rest.indexOf("```")));
    }

    private static void example(List<String> lines) {
        Pattern typed = Pattern.compile("for \\(char c : \"(.*)\"\\.toCharArray\\(\\)\\) \\{");
        Pattern typing = Pattern.compile(" +x\\.type\\((\\d), c\\); +// .*");
        Pattern call = Pattern.compile("x\\.(\\w+\\(.*\\)); +// (-?\\d+)(:.*)?");
        OnePlan x = new OnePlan();
        String text = "";
        for (String line : lines) {
            Matcher aText = typed.matcher(line);
            Matcher aType = typing.matcher(line);
            Matcher aCall = call.matcher(line);
            if (aText.matches()) {
                text = aText.group(1);
            } else if (aType.matches()) {
                Due.type(x, Integer.parseInt(aType.group(1)), text);
            } else if (aCall.matches()) {
                due.is("README.md: " + line, Edges.on(x, aCall.group(1)), Long.parseLong(aCall.group(2)));
            } else {
                boolean known = line.isEmpty() || line.equals("}") || line.equals("OnePlan x = new OnePlan();");
                stands("a line that is not looked at: " + line, known);
            }
        }
    }

    private static void commands(List<String> named, List<String> script) {
        due.is("README.md: the commands of .ci/run", compilings(named).equals(compilings(script)) ? 1 : 0, 1);
        due.is("README.md: how many commands", compilings(named).size(), 4);
    }

    private static List<String> compilings(List<String> lines) {
        List<String> commands = new ArrayList<>();
        for (String line : lines) {
            if (line.trim().startsWith("javac ") || line.trim().startsWith("java ")) {
                commands.add(line.trim());
            }
        }
        return commands;
    }

    private static void tests(List<String> lines) throws IOException {
        try (Stream<Path> files = Files.list(Path.of("src/test/java"))) {
            for (Path file : files.toList()) {
                String name = file.getFileName().toString().replace(".java", "");
                if (name.endsWith("Test")) {
                    stands("a row of " + name, lines.stream().anyMatch(line -> line.startsWith("| " + name + " | ")));
                }
            }
        }
    }
}
