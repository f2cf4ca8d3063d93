import java.nio.charset.StandardCharsets;
import java.util.ArrayList;
import java.util.Arrays;
import java.util.List;
import java.util.Random;

/** Promises 3 and 4: texts made by chance, most of them near a bound, against a second reader in its plainest form. */
public final class ReaderTest {
    private static final List<String> NAMES = List.of("weight", "temper", "full", "force", "wins", "held", "night");
    private static final List<String> LANGUAGE = List.of("claim", "contra", "straw", "member", "holds", "debate", "stuff",
        "damp", "seed", "law", "lean", "wear", "turn", "or", "and", "not", "weight", "temper", "full", "force", "wins",
        "held", "night");
    private static final List<String> COMPARED = List.of("<", "<=", "=", "<>", ">=", ">");
    private static final String[] STRANGE = {"not", "or", "and", "(", ")", ";", "<", "<=", "=", "<>", ">=", ">", "+", "-",
        "*", "/", "1", "9999", "10000", "night", "x", "lean", "claim", "abcdef", "abcdefg", "A", "!"};

    // @ is a fresh name, # a number. The favourite of a text comes again and again.
    private static final String[] KINDS = {"claim @ # #", "straw @ a #", "straw @ b #", "member @", "debate a a #",
        "stuff a #", "contra a b", "contra b a", "contra @ a", "contra b b", "holds a a", "holds a b", "holds a @",
        "damp #", "seed #", "law lean #", "law wear # + #", "claim @ # #;contra @ a;contra b @;contra @ b;contra a @"};

    public static void main(String[] args) {
        Random random = new Random(5);
        for (int i = 0; i < 6000; i++) {
            compare(i % 2 == 0 ? lawText(random) : mixedText(random));
        }
        Check.end("ReaderTest");
    }

    private static void compare(String text) {
        if (text.length() > 700) {
            return;
        }
        int lines = StrawMen.NONE;
        int fault = 0;
        int place = StrawMen.NONE;
        int knots = 0;
        Second second = new Second(text);
        try {
            lines = second.lines();
            knots = second.knots;
        } catch (Second.Fault found) {
            fault = found.which;
            place = found.place;
        }
        StrawMen x = new StrawMen();
        Check.due("text of " + text, Check.tell(x, text), lines);
        Check.due("fault(0) of " + text, x.fault(0), fault);
        Check.due("fault(1) of " + text, x.fault(1), place);
        Check.due("knots of " + text, x.count(5), knots);
    }

    private static String lawText(Random random) {
        StringBuilder text = new StringBuilder();
        String[] laws = {"lean", "wear", "turn", "lean"};
        int from = random.nextInt(3);
        int count = 1 + random.nextInt(2);
        for (int i = from; i < from + count && i < laws.length; i++) {
            List<String> parts = expression(random);
            if (random.nextInt(3) == 0) {
                parts.add(random.nextInt(parts.size() + 1), STRANGE[random.nextInt(STRANGE.length)]);
            }
            if (random.nextInt(6) == 0) {
                parts.remove(random.nextInt(parts.size()));
            }
            text.append("law ").append(laws[i]).append(' ').append(String.join(" ", parts)).append(";");
        }
        return random.nextInt(8) == 0 ? text.substring(0, random.nextInt(text.length() + 1)) : text.toString();
    }

    private static List<String> expression(Random random) {
        List<String> parts = new ArrayList<>();
        int open = random.nextInt(3) == 0 ? 6 + random.nextInt(4) : random.nextInt(2);
        int signs = random.nextInt(3) == 0 ? 28 + random.nextInt(6) : random.nextInt(4);
        int denials = random.nextInt(3) == 0 ? 60 + random.nextInt(8) - 2 * signs : random.nextInt(3);
        for (int i = 0; i < denials; i++) {
            parts.add("not");
        }
        for (int i = 0; i < open; i++) {
            parts.add("(");
        }
        String[] joints = {"+", "-", "*", "/", "and", "or", "and not", "or not"};
        parts.add("1");
        for (int i = 0; i < signs; i++) {
            parts.add(joints[random.nextInt(joints.length)]);
            parts.add(random.nextBoolean() ? "7" : NAMES.get(random.nextInt(NAMES.size())));
        }
        if (random.nextInt(3) == 0) {
            parts.add(COMPARED.get(random.nextInt(COMPARED.size())));
            parts.add("2");
        }
        for (int i = 0; i < open; i++) {
            parts.add(")");
        }
        return parts;
    }

    /** Lines most of which are fine, so that the bounds on how many there may be are met; now and then a token more. */
    private static String mixedText(Random random) {
        StringBuilder text = new StringBuilder("claim a 1 1;claim b 1 1;straw a a 1;member a;");
        int favourite = random.nextInt(KINDS.length);
        int lines = 4 + random.nextInt(30);
        for (int i = 0; i < lines; i++) {
            String line = KINDS[random.nextInt(5) > 0 ? favourite : random.nextInt(KINDS.length)];
            for (char c : line.toCharArray()) {
                if (c == '#') {
                    text.append(number(random));
                } else {
                    text.append(c == '@' ? (char) ('c' + i % 24) : c);
                }
                if (c == ' ' && random.nextInt(400) == 0) {
                    text.append(STRANGE[random.nextInt(STRANGE.length)]).append(' ');
                }
            }
            text.append(random.nextInt(400) == 0 ? " " : ";");
        }
        return text.toString();
    }

    private static int number(Random random) {
        return random.nextInt(60) > 0 ? 1 + random.nextInt(9) : random.nextInt(120);
    }

    /** Reads as the document is worded: a method for each part of its grammar, a fault thrown where it is found. */
    private static final class Second {
        static final class Fault extends Exception {
            private static final long serialVersionUID = 1L;
            final int which;
            final int place;

            Fault(int which, int place) {
                this.which = which;
                this.place = place;
            }
        }

        final List<String> tokens = new ArrayList<>();
        final List<Integer> places = new ArrayList<>();
        final List<String> claims = new ArrayList<>();
        final List<String> straws = new ArrayList<>();
        final List<String> members = new ArrayList<>();
        final List<String> told = new ArrayList<>();
        int contras = 0;
        int debates = 0;
        int stuffs = 0;
        int at = 0;
        int open = 0;
        int knots = 0;

        Second(String text) {
            byte[] bytes = text.getBytes(StandardCharsets.ISO_8859_1);
            int i = 0;
            while (i < bytes.length) {
                int from = i;
                i++;
                if (isLetter(bytes[from])) {
                    while (i < bytes.length && isLetter(bytes[i])) {
                        i++;
                    }
                } else if (isDigit(bytes[from])) {
                    while (i < bytes.length && isDigit(bytes[i])) {
                        i++;
                    }
                } else if (i < bytes.length && Arrays.asList("<=", "<>", ">=").contains(text.substring(from, i + 1))) {
                    i++;
                }
                if (bytes[from] != 10 && bytes[from] != 32) {
                    tokens.add(text.substring(from, i));
                    places.add(from);
                }
            }
            tokens.add("");
            places.add(bytes.length);
        }

        private static boolean isLetter(int b) {
            return b >= 'a' && b <= 'z';
        }

        private static boolean isDigit(int b) {
            return b >= '0' && b <= '9';
        }

        int lines() throws Fault {
            int lines = 0;
            while (!is("")) {
                line();
                demand(is(";"), 1);
                at++;
                lines++;
            }
            return lines;
        }

        private boolean is(String token) {
            return tokens.get(at).equals(token);
        }

        private void demand(boolean fine, int otherwise) throws Fault {
            if (!fine) {
                throw new Fault(otherwise, places.get(at));
            }
        }

        private String word() throws Fault {
            String token = tokens.get(at);
            boolean letters = !token.isEmpty() && isLetter(token.charAt(0));
            demand(letters && token.length() <= 6 && !LANGUAGE.contains(token), 1);
            return token;
        }

        private String fresh(List<String> names) throws Fault {
            String token = word();
            demand(!names.contains(token), 3);
            at++;
            return token;
        }

        private String one(List<String> names) throws Fault {
            String token = word();
            demand(names.contains(token), 4);
            at++;
            return token;
        }

        private boolean isNumber() {
            return !is("") && isDigit(tokens.get(at).charAt(0));
        }

        private void number(int least, int most) throws Fault {
            demand(isNumber(), 1);
            demand(new java.math.BigInteger(tokens.get(at)).compareTo(java.math.BigInteger.valueOf(most)) <= 0, 2);
            demand(Integer.parseInt(tokens.get(at)) >= least, 2);
            at++;
        }

        private void line() throws Fault {
            switch (tokens.get(at)) {
                case "claim":
                    begin(claims.size() < 8, 2);
                    String claim = fresh(claims);
                    number(0, 99);
                    number(0, 9);
                    claims.add(claim);
                    break;
                case "contra":
                    begin(contras < 16, 2);
                    String from = one(claims);
                    second("contra " + from + " ", claims);
                    at--;
                    demand(!is(from), 5);
                    at++;
                    contras++;
                    break;
                case "straw":
                    begin(straws.size() < 5, 2);
                    String straw = fresh(straws);
                    one(claims);
                    number(1, 99);
                    straws.add(straw);
                    break;
                case "member":
                    begin(members.size() < 5, 2);
                    members.add(fresh(members));
                    break;
                case "holds":
                    begin(true, 0);
                    second("holds " + one(members) + " ", claims);
                    break;
                case "debate":
                    begin(debates < 12, 2);
                    one(members);
                    one(straws);
                    number(0, 99);
                    debates++;
                    break;
                case "stuff":
                    begin(stuffs < 6, 2);
                    one(straws);
                    number(0, 99);
                    stuffs++;
                    break;
                case "damp":
                    begin(told.add("damp") && told.indexOf("damp") == told.size() - 1, 3);
                    number(0, 100);
                    break;
                case "seed":
                    begin(told.add("seed") && told.indexOf("seed") == told.size() - 1, 3);
                    number(0, 99999);
                    break;
                case "law":
                    begin(true, 0);
                    demand(is("lean") || is("wear") || is("turn"), 1);
                    String law = tokens.get(at);
                    begin(told.add(law) && told.indexOf(law) == told.size() - 1, 3);
                    either();
                    break;
                default:
                    demand(false, 1);
            }
        }

        private void begin(boolean fine, int otherwise) throws Fault {
            demand(fine, otherwise);
            at++;
        }

        private void second(String first, List<String> names) throws Fault {
            String pair = first + one(names);
            at--;
            demand(!told.contains(pair), 3);
            told.add(pair);
            at++;
        }

        private void knot() throws Fault {
            demand(knots < 64, 2);
            knots++;
            at++;
        }

        private void either() throws Fault {
            both();
            while (is("or")) {
                knot();
                both();
            }
        }

        private void both() throws Fault {
            denied();
            while (is("and")) {
                knot();
                denied();
            }
        }

        private void denied() throws Fault {
            if (is("not")) {
                knot();
                denied();
            } else {
                compared();
            }
        }

        private void compared() throws Fault {
            sum();
            if (COMPARED.contains(tokens.get(at))) {
                knot();
                sum();
            }
        }

        private void sum() throws Fault {
            product();
            while (is("+") || is("-")) {
                knot();
                product();
            }
        }

        private void product() throws Fault {
            part();
            while (is("*") || is("/")) {
                knot();
                part();
            }
        }

        private void part() throws Fault {
            if (is("(")) {
                demand(open < 8, 2);
                open++;
                at++;
                either();
                demand(is(")"), 1);
                open--;
                at++;
            } else if (isNumber()) {
                number(0, 9999);
                at--;
                knot();
            } else {
                demand(NAMES.contains(tokens.get(at)), 1);
                knot();
            }
        }
    }
}
