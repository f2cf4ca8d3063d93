import java.io.IOException;
import java.nio.file.Files;
import java.nio.file.Path;
import java.util.ArrayList;
import java.util.List;
import java.util.regex.Matcher;
import java.util.regex.Pattern;
import java.util.stream.Collectors;
import java.util.stream.Stream;

/** README.md: the program and the commands in it are tried as they stand there, and it names every call of the face. */
public final class ReadmeTest {
    private static final Pattern PRINTED = Pattern.compile("System\\.out\\.println\\(.*\\); // (.*?)(?:: .*)?");
    private static final Pattern CALL = Pattern.compile("\\| (\\d+) \\| `(\\w+\\([\\w, ]*\\))` \\| .+ \\|");
    private static final Pattern FACE = Pattern.compile(" {4}public (?:int |long |boolean )?(\\w+\\(.*\\)).*;");

    public static void main(String[] args) throws IOException, InterruptedException {
        List<String> readme = Files.readAllLines(Path.of("README.md"));
        List<String> program = blocks(readme, "```java").get(0);
        Elsewhere there = new Elsewhere();
        copyProject(there);
        Elsewhere.write(there.main.resolve("Use.java"), String.join("\n", program));
        for (List<String> commands : blocks(readme, "```sh")) {
            for (String command : commands) {
                tried(there, command, program);
            }
        }
        there.remove();
        Check.due("README.md, blocks of Java", blocks(readme, "```java").size(), 1);
        Check.due("README.md, does it say .ci/run", readme.contains(".ci/run"), true);
        Check.due("README.md, does it say java -cp out Use", readme.contains("java -cp out Use"), true);
        calls(readme);
        Check.end("ReadmeTest");
    }

    // Of the tests only the one that the page names: all of them are being run already, by the .ci/run that runs this one.
    private static void copyProject(Elsewhere there) throws IOException {
        Elsewhere.copy(Path.of(".ci"), there.main.resolve(".ci"));
        Elsewhere.copy(Path.of("src"), there.main.resolve("src"));
        Elsewhere.copy(Path.of("..", "shared"), there.shared);
        for (String name : namesIn(there.main.resolve("src/test/java"), "Test.java")) {
            if (!name.equals("SetsTest")) {
                Files.delete(there.main.resolve("src/test/java/" + name + ".java"));
            }
        }
    }

    private static void tried(Elsewhere there, String command, List<String> program)
            throws IOException, InterruptedException {
        Elsewhere.Outcome outcome = there.run(command);
        Check.due("README.md: '" + command + "' (it printed " + outcome.printed + ") ended", outcome.code, 0);
        if (command.equals("java -cp out Use")) {
            printed(program, outcome.printed);
        } else if (command.equals(".ci/run")) {
            allRan(there.main.resolve("src/test/java"), "Test.java", outcome.printed);
            allRan(there.shared.resolve("tests"), ".java", outcome.printed);
        }
    }

    private static void printed(List<String> program, List<String> got) {
        List<String> due = new ArrayList<>();
        for (String line : program) {
            Matcher printing = PRINTED.matcher(line.trim());
            if (printing.matches()) {
                due.add(printing.group(1));
            }
        }
        Check.due("README.md, lines printed by Use", got.size(), due.size());
        for (int i = 0; i < due.size() && i < got.size(); i++) {
            String what = "README.md, line " + i + " of what Use prints: '" + got.get(i) + "' for '" + due.get(i) + "'";
            Check.due(what, got.get(i).equals(due.get(i)), true);
        }
    }

    private static List<String> namesIn(Path directory, String ending) throws IOException {
        try (Stream<Path> files = Files.list(directory)) {
            return files.map(file -> file.getFileName().toString()).filter(name -> name.endsWith(ending))
                .map(name -> name.replace(".java", "")).collect(Collectors.toList());
        }
    }

    private static void allRan(Path directory, String ending, List<String> printed) throws IOException {
        List<String> names = namesIn(directory, ending);
        Check.due("tests in " + directory, names.isEmpty(), false);
        for (String name : names) {
            Check.due("README.md: does .ci/run run " + name, printed.contains(name + ": passed"), true);
        }
    }

    /** The calls of the page are those of the document's face, numbered as its promises are. */
    private static void calls(List<String> readme) {
        List<String> due = new ArrayList<>();
        for (String line : Doc.lines()) {
            Matcher face = FACE.matcher(line);
            if (face.matches()) {
                due.add(face.group(1).replaceAll(" throws .*", "").replaceAll("(int|long|boolean) ", ""));
            }
        }
        List<String> got = new ArrayList<>();
        for (String line : readme) {
            Matcher call = CALL.matcher(line);
            if (call.matches()) {
                got.add(call.group(2));
                Check.due("README.md, the promise of " + call.group(2), Integer.parseInt(call.group(1)), got.size());
            }
        }
        Check.due("README.md, calls", got.size(), Doc.PROMISES);
        Check.due("README.md, calls " + got + " for " + due, got.equals(due), true);
    }

    private static List<List<String>> blocks(List<String> readme, String fence) {
        List<List<String>> blocks = new ArrayList<>();
        List<String> open = null;
        for (String line : readme) {
            if (open != null && line.equals("```")) {
                open = null;
            } else if (open != null) {
                open.add(line);
            } else if (line.equals(fence)) {
                open = new ArrayList<>();
                blocks.add(open);
            }
        }
        return blocks;
    }
}
