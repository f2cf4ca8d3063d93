import java.nio.charset.StandardCharsets;

/** What the tests share: telling a text to an object, and saying what is not as due. */
final class Check {
    static final int NONE = StrawMen.NONE;
    static final long NO_VALUE = Long.MIN_VALUE;

    /** The text that most tests go by. */
    static final String FIVE_CLAIMS = "claim a 40 1;claim b 60 2;claim c 30 0;claim d 50 3;claim e 20 5;"
        + "contra a b;contra b a;contra b c;contra c d;contra d e;straw s b 50;straw t d 4;"
        + "member x;member y;holds x a;holds x c;holds y d;"
        + "debate x s 0;debate x t 1;debate y t 2;debate x s 3;stuff t 5;seed 0;";

    // Far above what a test takes.
    private static final long MOST_MILLIS = 300000;

    private static int wrong = 0;
    private static int calls = 0;
    // Which promise and sentence is being tested, told ahead of every answer that is not as due.
    private static volatile String heading = "";

    // A call that never ends must fail the test, too, so each test is watched.
    static {
        Thread watch = new Thread(Check::endLate);
        watch.setDaemon(true);
        watch.start();
    }

    private Check() {
    }

    private static void endLate() {
        try {
            Thread.sleep(MOST_MILLIS);
        } catch (InterruptedException e) {
            return;
        }
        System.out.println(heading + "a call doesn't end, behind " + calls + " answers");
        System.out.flush();
        Runtime.getRuntime().halt(1);
    }

    static void due(String what, long got, long want) {
        calls++;
        if (got != want) {
            wrong++;
            System.out.println(heading + what + " answered " + got + ", due is " + want);
        }
    }

    static void head(String sentence) {
        heading = sentence;
    }

    static int answers() {
        return calls;
    }

    static void due(String what, boolean got, boolean want) {
        due(what, got ? 1 : 0, want ? 1 : 0);
    }

    static void end(String test) {
        System.out.println(test + ": " + calls + " answers, " + wrong + " not as due");
        if (wrong != 0) {
            System.exit(1);
        }
    }

    /** Feeds the bytes, with blanks behind them up to a whole twenty. */
    static void feed(StrawMen x, String text) {
        byte[] bytes = text.getBytes(StandardCharsets.ISO_8859_1);
        for (int i = 0; i < bytes.length; i += 20) {
            x.feed(four(bytes, i), four(bytes, i + 4), four(bytes, i + 8), four(bytes, i + 12), four(bytes, i + 16));
        }
    }

    static int tell(StrawMen x, String text) {
        feed(x, text);
        return x.text(text.length());
    }

    static StrawMen told(String text) {
        StrawMen x = new StrawMen();
        if (tell(x, text) < 0) {
            due("text of " + text + ": fault " + x.fault(0) + " at " + x.fault(1), 1, 0);
        }
        return x;
    }

    /** Numbers that none of so many things has, some of which a careless shift or mask would take for one. */
    static int[] notOf(int size) {
        return new int[] {-1, -2, size, size + 1, 32, 33, 64, 256, Integer.MAX_VALUE, Integer.MIN_VALUE};
    }

    /** The text has this fault, at the place where the mark stands in it (the mark is taken out). */
    static void faulty(int fault, String marked) {
        int place = marked.indexOf('#');
        String text = marked.substring(0, place) + marked.substring(place + 1);
        StrawMen x = new StrawMen();
        due("text of " + marked, tell(x, text), NONE);
        due("fault(0) of " + marked, x.fault(0), fault);
        due("fault(1) of " + marked, x.fault(1), place);
    }

    static void fine(String text, int lines) {
        StrawMen x = new StrawMen();
        due("text of " + text, tell(x, text), lines);
        due("fault(0) of " + text, x.fault(0), 0);
        due("fault(1) of " + text, x.fault(1), NONE);
    }

    static int letters(String name) {
        int packed = 0;
        for (int i = 0; i < 6; i++) {
            packed = packed * 32 + (i < name.length() ? name.charAt(i) - 'a' + 1 : 0);
        }
        return packed;
    }

    private static int four(byte[] bytes, int from) {
        int four = 0;
        for (int i = from; i < from + 4; i++) {
            four = four << 8 | (i < bytes.length ? bytes[i] & 255 : 32);
        }
        return four;
    }
}
