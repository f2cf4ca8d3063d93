import java.io.IOException;
import java.nio.charset.StandardCharsets;
import java.nio.file.Files;
import java.nio.file.Path;
import java.util.Comparator;
import java.util.List;
import java.util.stream.Collectors;
import java.util.stream.Stream;

/** A directory of its own, with main and shared beside each other, in which commands are tried; nothing is left behind. */
final class Elsewhere {
    private static final int CAN_NOT_BE_RUN = 126;

    final Path root;
    final Path main;
    final Path shared;

    Elsewhere() throws IOException {
        root = Files.createTempDirectory("straw");
        main = Files.createDirectories(root.resolve("main"));
        shared = Files.createDirectories(root.resolve("shared"));
    }

    /** A copy of the file or directory, with all that is in it; what may be run may be run there, too. */
    static void copy(Path from, Path to) throws IOException {
        for (Path one : under(from)) {
            Path target = to.resolve(from.relativize(one).toString());
            if (Files.isDirectory(one)) {
                Files.createDirectories(target);
            } else {
                Files.createDirectories(target.getParent());
                Files.write(target, Files.readAllBytes(one));
                if (Files.isExecutable(one) && !target.toFile().setExecutable(true)) {
                    throw new IOException(target + " can't be made executable");
                }
            }
        }
    }

    static void write(Path file, String text) throws IOException {
        Files.createDirectories(file.getParent());
        Files.writeString(file, text);
    }

    /** The command's exit code, and what it printed. */
    Outcome run(String command) throws IOException, InterruptedException {
        Outcome outcome = runPlainly(command);
        // A machine may not let a file be run from where temporary ones are.
        return outcome.code == CAN_NOT_BE_RUN ? runPlainly("sh " + command) : outcome;
    }

    private Outcome runPlainly(String command) throws IOException, InterruptedException {
        Process process = new ProcessBuilder("sh", "-c", command).directory(main.toFile()).redirectErrorStream(true).start();
        process.getOutputStream().close();
        String printed = new String(process.getInputStream().readAllBytes(), StandardCharsets.UTF_8);
        return new Outcome(process.waitFor(), printed.lines().collect(Collectors.toList()));
    }

    void remove() throws IOException {
        List<Path> all = under(root);
        all.sort(Comparator.reverseOrder());
        for (Path one : all) {
            Files.delete(one);
        }
    }

    private static List<Path> under(Path from) throws IOException {
        try (Stream<Path> all = Files.walk(from)) {
            return all.collect(Collectors.toList());
        }
    }

    static final class Outcome {
        final int code;
        final List<String> printed;

        Outcome(int code, List<String> printed) {
            this.code = code;
            this.printed = printed;
        }
    }
}
