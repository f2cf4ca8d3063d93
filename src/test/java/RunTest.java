import java.io.IOException;
import java.nio.file.Path;
import java.util.ArrayList;
import java.util.List;
import java.util.concurrent.ExecutionException;
import java.util.concurrent.ExecutorService;
import java.util.concurrent.Executors;
import java.util.concurrent.Future;

/** .ci/run itself: it runs every test, and fails if one of them fails. Tried on small projects in its place, side by side. */
public final class RunTest {
    private static final String PASSES = "public final class NAME { public static void main(String[] a) { } }";
    private static final String FAILS = "public final class NAME { public static void main(String[] a) { System.exit(1); } }";
    private static final String THROWS =
        "public final class NAME { public static void main(String[] a) { throw new IllegalStateException(); } }";
    private static final String DOES_NOT_COMPILE = "public final class NAME { int a = true; }";
    private static final String NOT_THERE = "";

    // Each: two tests of the project, and one under ../shared/tests.
    private static final String[][] PROJECTS = {
        {PASSES, PASSES, PASSES}, {FAILS, PASSES, PASSES}, {PASSES, FAILS, PASSES}, {PASSES, PASSES, FAILS},
        {THROWS, PASSES, PASSES}, {PASSES, PASSES, THROWS}, {PASSES, PASSES, DOES_NOT_COMPILE},
        {PASSES, DOES_NOT_COMPILE, PASSES}, {PASSES, PASSES, NOT_THERE}};
    // Behind these two nothing more is run.
    private static final int RUN_THROUGH = PROJECTS.length - 2;

    public static void main(String[] args) throws IOException, InterruptedException, ExecutionException {
        // All is written ahead of the first run: a file can't be run while it is open to be written.
        List<Elsewhere> places = new ArrayList<>();
        for (String[] project : PROJECTS) {
            places.add(written(project));
        }
        ExecutorService sideBySide = Executors.newFixedThreadPool(4);
        List<Future<Elsewhere.Outcome>> outcomes = new ArrayList<>();
        for (Elsewhere there : places) {
            outcomes.add(sideBySide.submit(() -> there.run(".ci/run")));
        }
        for (int i = 0; i < PROJECTS.length; i++) {
            Elsewhere.Outcome outcome = outcomes.get(i).get();
            places.get(i).remove();
            String what = " in project " + i + ", which printed " + outcome.printed;
            Check.due(".ci/run" + what, outcome.code, i == 0 ? 0 : 1);
            for (int test = 0; test < 3 && i < RUN_THROUGH; test++) {
                String line = line(test, PROJECTS[i][test]);
                Check.due("does .ci/run say '" + line + "'" + what, outcome.printed.contains(line), true);
            }
        }
        sideBySide.shutdown();
        Check.end("RunTest");
    }

    private static String name(int test) {
        return test == 0 ? "OneTest" : test == 1 ? "TwoTest" : "Shared";
    }

    // A test that fails keeps none behind it from being run.
    private static String line(int test, String text) {
        String word = text.equals(PASSES) ? "passed" : text.equals(DOES_NOT_COMPILE) ? "does not compile" : "FAILED";
        return name(test) + ": " + word;
    }

    private static Elsewhere written(String[] project) throws IOException {
        Elsewhere there = new Elsewhere();
        Elsewhere.copy(Path.of(".ci"), there.main.resolve(".ci"));
        Elsewhere.write(there.main.resolve("src/main/java/StrawMen.java"), "public final class StrawMen { }");
        for (int test = 0; test < 3; test++) {
            Path directory = test < 2 ? there.main.resolve("src/test/java") : there.shared.resolve("tests");
            if (!project[test].equals(NOT_THERE)) {
                Elsewhere.write(directory.resolve(name(test) + ".java"), project[test].replace("NAME", name(test)));
            }
        }
        return there;
    }
}
