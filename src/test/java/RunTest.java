import java.io.IOException;
import java.nio.file.Path;

/** .ci/run itself: it runs every test, and fails if one of them fails. Tried on a small project in its place. */
public final class RunTest {
    private static final String PASSES = "public final class NAME { public static void main(String[] a) { } }";
    private static final String FAILS = "public final class NAME { public static void main(String[] a) { System.exit(1); } }";
    private static final String THROWS =
        "public final class NAME { public static void main(String[] a) { throw new IllegalStateException(); } }";
    private static final String DOES_NOT_COMPILE = "public final class NAME { int a = true; }";

    public static void main(String[] args) throws IOException, InterruptedException {
        tried("all pass", PASSES, PASSES, PASSES, 0);
        tried("the first test of the project fails", FAILS, PASSES, PASSES, 1);
        tried("the last test of the project fails", PASSES, FAILS, PASSES, 1);
        tried("a test under ../shared/tests fails", PASSES, PASSES, FAILS, 1);
        tried("a test under ../shared/tests throws", PASSES, PASSES, THROWS, 1);
        doesNotCompile();
        nothingShared();
        Check.end("RunTest");
    }

    private static void tried(String what, String one, String two, String shared, int due)
            throws IOException, InterruptedException {
        Elsewhere there = project(one, two, shared);
        Elsewhere.Outcome outcome = there.run(".ci/run");
        there.remove();
        Check.due(".ci/run, if " + what, outcome.code, due);
        ran(what, outcome, "OneTest", one);
        ran(what, outcome, "TwoTest", two);
        ran(what, outcome, "Shared", shared);
    }

    // A test that fails keeps none behind it from being run.
    private static void ran(String what, Elsewhere.Outcome outcome, String name, String test) {
        String word = test.equals(PASSES) ? ": passed" : ": FAILED";
        Check.due("does .ci/run say '" + name + word + "', if " + what, outcome.printed.contains(name + word), true);
    }

    private static void doesNotCompile() throws IOException, InterruptedException {
        Elsewhere own = project(DOES_NOT_COMPILE, PASSES, PASSES);
        Check.due(".ci/run, if a test of the project doesn't compile", own.run(".ci/run").code, 1);
        own.remove();
        Elsewhere shared = project(PASSES, PASSES, DOES_NOT_COMPILE);
        Check.due(".ci/run, if a test under ../shared/tests doesn't compile", shared.run(".ci/run").code, 1);
        shared.remove();
    }

    private static void nothingShared() throws IOException, InterruptedException {
        Elsewhere there = project(PASSES, PASSES, null);
        Check.due(".ci/run, if ../shared/tests isn't there", there.run(".ci/run").code, 1);
        there.remove();
    }

    private static Elsewhere project(String one, String two, String shared) throws IOException {
        Elsewhere there = new Elsewhere();
        Elsewhere.copy(Path.of(".ci"), there.main.resolve(".ci"));
        Elsewhere.write(there.main.resolve("src/main/java/StrawMen.java"), "public final class StrawMen { }");
        test(there.main.resolve("src/test/java"), "OneTest", one);
        test(there.main.resolve("src/test/java"), "TwoTest", two);
        if (shared != null) {
            test(there.shared.resolve("tests"), "Shared", shared);
        }
        return there;
    }

    private static void test(Path directory, String name, String text) throws IOException {
        Elsewhere.write(directory.resolve(name + ".java"), text.replace("NAME", name));
    }
}
