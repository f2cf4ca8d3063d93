import java.util.ArrayList;
import java.util.List;
import java.util.Random;

/** Promises 3 and 4: texts made by chance, most of them near a bound, against a second reader (Told). */
public final class ReaderTest {
    private static final String[] STRANGE = {"not", "or", "and", "(", ")", ";", "<", "<=", "=", "<>", ">=", ">", "+", "-",
        "*", "/", "1", "9999", "10000", "night", "x", "lean", "claim", "abcdef", "abcdefg", "A", "!"};

    // @ is a fresh name, # a number. The favourite of a text comes again and again.
    private static final String[] KINDS = {"claim @ # #", "straw @ a #", "straw @ b #", "member @", "debate a a #",
        "stuff a #", "contra a b", "contra b a", "contra @ a", "contra b b", "holds a a", "holds a b", "holds a @",
        "damp #", "seed #", "law lean #", "law wear # + #", "claim @ # #;contra @ a;contra b @;contra @ b;contra a @"};

    public static void main(String[] args) {
        Random random = new Random(5);
        for (int i = 0; i < 6000; i++) {
            compare(i % 2 == 0 ? lawText(random) : mixedText(random));
        }
        Check.end("ReaderTest");
    }

    private static void compare(String text) {
        if (text.length() > 700) {
            return;
        }
        int lines = StrawMen.NONE;
        int fault = 0;
        int place = StrawMen.NONE;
        int knots = 0;
        try {
            Told told = new Told(text);
            lines = told.lines;
            knots = told.knots;
        } catch (Told.Fault found) {
            fault = found.which;
            place = found.place;
        }
        StrawMen x = new StrawMen();
        Check.due("text of " + text, Check.tell(x, text), lines);
        Check.due("fault(0) of " + text, x.fault(0), fault);
        Check.due("fault(1) of " + text, x.fault(1), place);
        Check.due("knots of " + text, x.count(5), knots);
    }

    private static String lawText(Random random) {
        StringBuilder text = new StringBuilder();
        String[] laws = {"lean", "wear", "turn", "lean"};
        int from = random.nextInt(3);
        int count = 1 + random.nextInt(2);
        for (int i = from; i < from + count && i < laws.length; i++) {
            List<String> parts = expression(random);
            if (random.nextInt(3) == 0) {
                parts.add(random.nextInt(parts.size() + 1), STRANGE[random.nextInt(STRANGE.length)]);
            }
            if (random.nextInt(6) == 0) {
                parts.remove(random.nextInt(parts.size()));
            }
            text.append("law ").append(laws[i]).append(' ').append(String.join(" ", parts)).append(";");
        }
        return random.nextInt(8) == 0 ? text.substring(0, random.nextInt(text.length() + 1)) : text.toString();
    }

    private static List<String> expression(Random random) {
        List<String> parts = new ArrayList<>();
        int open = random.nextInt(3) == 0 ? 6 + random.nextInt(4) : random.nextInt(2);
        int signs = random.nextInt(3) == 0 ? 28 + random.nextInt(6) : random.nextInt(4);
        int denials = random.nextInt(3) == 0 ? 60 + random.nextInt(8) - 2 * signs : random.nextInt(3);
        for (int i = 0; i < denials; i++) {
            parts.add("not");
        }
        for (int i = 0; i < open; i++) {
            parts.add("(");
        }
        String[] joints = {"+", "-", "*", "/", "and", "or", "and not", "or not"};
        parts.add("1");
        for (int i = 0; i < signs; i++) {
            parts.add(joints[random.nextInt(joints.length)]);
            parts.add(random.nextBoolean() ? "7" : Told.NAMES.get(random.nextInt(Told.NAMES.size())));
        }
        if (random.nextInt(3) == 0) {
            parts.add(Told.COMPARED.get(random.nextInt(Told.COMPARED.size())));
            parts.add("2");
        }
        for (int i = 0; i < open; i++) {
            parts.add(")");
        }
        return parts;
    }

    /** Lines most of which are fine, so that the bounds on how many there may be are met; now and then a token more. */
    private static String mixedText(Random random) {
        StringBuilder text = new StringBuilder("claim a 1 1;claim b 1 1;straw a a 1;member a;");
        int favourite = random.nextInt(KINDS.length);
        int lines = 4 + random.nextInt(30);
        for (int i = 0; i < lines; i++) {
            String line = KINDS[random.nextInt(5) > 0 ? favourite : random.nextInt(KINDS.length)];
            for (char c : line.toCharArray()) {
                if (c == '#') {
                    text.append(number(random));
                } else {
                    text.append(c == '@' ? (char) ('c' + i % 24) : c);
                }
                if (c == ' ' && random.nextInt(400) == 0) {
                    text.append(STRANGE[random.nextInt(STRANGE.length)]).append(' ');
                }
            }
            text.append(random.nextInt(400) == 0 ? " " : ";");
        }
        return text.toString();
    }

    private static int number(Random random) {
        return random.nextInt(60) > 0 ? 1 + random.nextInt(9) : random.nextInt(120);
    }
}
