import java.io.IOException;
import java.nio.file.Files;
import java.nio.file.Path;
import java.util.LinkedHashMap;
import java.util.List;
import java.util.Map;

/**
 * The sentences of ../shared/DOC.md. A test says which one it holds to, by the part of the document and the words as they
 * stand there; words that aren't there are as wrong as a wrong answer, and so is a sentence that no test says.
 * The parts: 'What it is', 'Terms 1' to 'Terms 4' (by the marks ==== in it), 'Promise 1' to 'Promise 41'.
 */
final class Doc {
    static final int PROMISES = 41;

    private static final Map<String, String> PARTS = new LinkedHashMap<>();
    private static final Map<String, boolean[]> SAID = new LinkedHashMap<>();
    private static int answersAhead = 0;
    private static String latest = "";

    private Doc() {
    }

    static List<String> lines() {
        try {
            return Files.readAllLines(Path.of("..", "shared", "DOC.md"));
        } catch (IOException e) {
            throw new IllegalStateException("../shared/DOC.md can't be read", e);
        }
    }

    static void read() {
        String part = "";
        for (String line : lines()) {
            if (line.startsWith("## ")) {
                part = partOf(line.substring(3));
            } else if (!line.startsWith("```")) {
                String words = line;
                if (words.startsWith("==== ")) {
                    part = "Terms " + words.charAt(5);
                    words = words.substring(7);
                }
                PARTS.merge(part, words, (one, other) -> one + " " + other);
            }
        }
        PARTS.keySet().removeIf(name -> !name.matches("What it is|Terms [1-4]|Promise \\d+"));
        PARTS.replaceAll((name, words) -> plain(withoutHead(name, words)));
        PARTS.forEach((name, words) -> SAID.put(name, new boolean[words.length()]));
    }

    private static String partOf(String heading) {
        if (heading.startsWith("Promise ")) {
            return heading.substring(0, heading.indexOf(':'));
        }
        return heading.equals("Terms") ? "Terms 1" : heading;
    }

    // The class in one sentence, and a call's signature, are no sentences that can be broken.
    private static String withoutHead(String name, String words) {
        String mark = name.startsWith("Promise") ? "`: " : name.equals("What it is") ? "==== 1." : "";
        return words.substring(words.indexOf(mark) + mark.length());
    }

    private static String plain(String words) {
        return words.replaceAll("\\s+", " ").trim();
    }

    /** What is tested from here on is that the part of the document says these words. */
    static void says(String part, String words) {
        close();
        latest = part + ": '" + words + "': ";
        Check.head(latest);
        String whole = PARTS.getOrDefault(part, "");
        int from = whole.indexOf(plain(words));
        Check.due("does the document say so", from >= 0, true);
        for (int i = from; from >= 0 && i < from + plain(words).length(); i++) {
            SAID.get(part)[i] = true;
        }
        answersAhead = Check.answers();
    }

    private static void close() {
        if (!latest.isEmpty()) {
            Check.due("is it tested", Check.answers() > answersAhead, true);
        }
        latest = "";
        Check.head("");
    }

    static void noneLeftOut() {
        close();
        for (int i = 1; i <= PROMISES; i++) {
            Check.due("is there promise " + i, PARTS.containsKey("Promise " + i), true);
        }
        for (Map.Entry<String, String> part : PARTS.entrySet()) {
            boolean[] said = SAID.get(part.getKey());
            StringBuilder left = new StringBuilder();
            for (int i = 0; i < said.length; i++) {
                left.append(said[i] ? "" : part.getValue().substring(i, i + 1));
            }
            String words = plain(left.toString());
            Check.due("words of " + part.getKey() + " that no test says: " + words, words.isEmpty(), true);
        }
    }
}
