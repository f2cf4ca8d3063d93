import java.math.BigInteger;
import java.nio.charset.StandardCharsets;
import java.util.ArrayList;
import java.util.Arrays;
import java.util.HashMap;
import java.util.List;
import java.util.Map;

/**
 * A second reader: it reads a text as the document is worded, a method for each part of its grammar, a fault thrown where it is
 * found, and keeps what is told.
 */
final class Told {
    static final List<String> NAMES = List.of("weight", "temper", "full", "force", "wins", "held", "night");
    static final List<String> LANGUAGE = List.of("claim", "contra", "straw", "member", "holds", "debate", "stuff",
        "damp", "seed", "law", "lean", "wear", "turn", "or", "and", "not", "weight", "temper", "full", "force", "wins",
        "held", "night");
    static final List<String> COMPARED = List.of("<", "<=", "=", "<>", ">=", ">");
    static final List<String> LAWS = List.of("lean", "wear", "turn");

    static final class Fault extends Exception {
        private static final long serialVersionUID = 1L;
        final int which;
        final int place;

        Fault(int which, int place) {
            this.which = which;
            this.place = place;
        }
    }

    /** A part of a law: a sign or a word with what stands to its left and right, or a number or a name alone. */
    static final class Knot {
        final String token;
        final Knot left;
        final Knot right;

        Knot(String token, Knot left, Knot right) {
            this.token = token;
            this.left = left;
            this.right = right;
        }
    }

    final List<String> claims = new ArrayList<>();
    final List<Integer> weights = new ArrayList<>();
    final List<Integer> tempers = new ArrayList<>();
    final List<int[]> contras = new ArrayList<>();
    final List<String> straws = new ArrayList<>();
    final List<Integer> strawClaims = new ArrayList<>();
    final List<Integer> strawFull = new ArrayList<>();
    final List<String> members = new ArrayList<>();
    final List<int[]> holds = new ArrayList<>();
    final List<int[]> debates = new ArrayList<>();
    final List<int[]> stuffs = new ArrayList<>();
    final Map<String, Knot> laws = new HashMap<>();
    Integer damp = null;
    Integer seed = null;
    int knots = 0;
    int lines = 0;

    private final List<String> tokens = new ArrayList<>();
    private final List<Integer> places = new ArrayList<>();
    private int at = 0;
    private int open = 0;

    Told(String text) throws Fault {
        byte[] bytes = text.getBytes(StandardCharsets.ISO_8859_1);
        int i = 0;
        while (i < bytes.length) {
            int from = i;
            i++;
            if (isLetter(bytes[from])) {
                while (i < bytes.length && isLetter(bytes[i])) {
                    i++;
                }
            } else if (isDigit(bytes[from])) {
                while (i < bytes.length && isDigit(bytes[i])) {
                    i++;
                }
            } else if (i < bytes.length && Arrays.asList("<=", "<>", ">=").contains(text.substring(from, i + 1))) {
                i++;
            }
            if (bytes[from] != 10 && bytes[from] != 32) {
                tokens.add(text.substring(from, i));
                places.add(from);
            }
        }
        tokens.add("");
        places.add(bytes.length);
        while (!is("")) {
            line();
            demand(is(";"), 1);
            at++;
            lines++;
        }
    }

    private static boolean isLetter(int b) {
        return b >= 'a' && b <= 'z';
    }

    private static boolean isDigit(int b) {
        return b >= '0' && b <= '9';
    }

    private boolean is(String token) {
        return tokens.get(at).equals(token);
    }

    private void demand(boolean fine, int otherwise) throws Fault {
        if (!fine) {
            throw new Fault(otherwise, places.get(at));
        }
    }

    private String word() throws Fault {
        String token = tokens.get(at);
        boolean letters = !token.isEmpty() && isLetter(token.charAt(0));
        demand(letters && token.length() <= 6 && !LANGUAGE.contains(token), 1);
        return token;
    }

    private String fresh(List<String> names) throws Fault {
        String token = word();
        demand(!names.contains(token), 3);
        at++;
        return token;
    }

    private int one(List<String> names) throws Fault {
        String token = word();
        demand(names.contains(token), 4);
        at++;
        return names.indexOf(token);
    }

    private boolean isNumber() {
        return !is("") && isDigit(tokens.get(at).charAt(0));
    }

    private int number(int least, int most) throws Fault {
        demand(isNumber(), 1);
        BigInteger value = new BigInteger(tokens.get(at));
        demand(value.compareTo(BigInteger.valueOf(least)) >= 0 && value.compareTo(BigInteger.valueOf(most)) <= 0, 2);
        at++;
        return value.intValue();
    }

    private void begin(boolean fine, int otherwise) throws Fault {
        demand(fine, otherwise);
        at++;
    }

    private void line() throws Fault {
        switch (tokens.get(at)) {
            case "claim":
                begin(claims.size() < 8, 2);
                String claim = fresh(claims);
                weights.add(number(0, 99));
                tempers.add(number(0, 9));
                claims.add(claim);
                break;
            case "contra":
                begin(contras.size() < 16, 2);
                pair(contras, claims, 5);
                break;
            case "straw":
                begin(straws.size() < 5, 2);
                String straw = fresh(straws);
                strawClaims.add(one(claims));
                strawFull.add(number(1, 99));
                straws.add(straw);
                break;
            case "member":
                begin(members.size() < 5, 2);
                members.add(fresh(members));
                break;
            case "holds":
                begin(true, 0);
                pair(holds, members, 0);
                break;
            case "debate":
                begin(debates.size() < 12, 2);
                debates.add(new int[] {one(members), one(straws), number(0, 99)});
                break;
            case "stuff":
                begin(stuffs.size() < 6, 2);
                stuffs.add(new int[] {one(straws), number(0, 99)});
                break;
            case "damp":
                begin(damp == null, 3);
                damp = number(0, 100);
                break;
            case "seed":
                begin(seed == null, 3);
                seed = number(0, 99999);
                break;
            case "law":
                begin(true, 0);
                demand(LAWS.contains(tokens.get(at)), 1);
                String law = tokens.get(at);
                begin(!laws.containsKey(law), 3);
                laws.put(law, either());
                break;
            default:
                demand(false, 1);
        }
    }

    // One of the names, then a claim; itself: the fault, if both are the same one (0: they may be).
    private void pair(List<int[]> pairs, List<String> names, int itself) throws Fault {
        int first = one(names);
        int second = one(claims);
        at--;
        for (int[] told : pairs) {
            demand(told[0] != first || told[1] != second, 3);
        }
        demand(itself == 0 || first != second, itself);
        at++;
        pairs.add(new int[] {first, second});
    }

    private String knot() throws Fault {
        demand(knots < 64, 2);
        knots++;
        at++;
        return tokens.get(at - 1);
    }

    private Knot either() throws Fault {
        Knot all = both();
        while (is("or")) {
            all = new Knot(knot(), all, both());
        }
        return all;
    }

    private Knot both() throws Fault {
        Knot all = denied();
        while (is("and")) {
            all = new Knot(knot(), all, denied());
        }
        return all;
    }

    private Knot denied() throws Fault {
        return is("not") ? new Knot(knot(), null, denied()) : compared();
    }

    private Knot compared() throws Fault {
        Knot left = sum();
        return COMPARED.contains(tokens.get(at)) ? new Knot(knot(), left, sum()) : left;
    }

    private Knot sum() throws Fault {
        Knot all = product();
        while (is("+") || is("-")) {
            all = new Knot(knot(), all, product());
        }
        return all;
    }

    private Knot product() throws Fault {
        Knot all = part();
        while (is("*") || is("/")) {
            all = new Knot(knot(), all, part());
        }
        return all;
    }

    private Knot part() throws Fault {
        if (is("(")) {
            demand(open < 8, 2);
            open++;
            at++;
            Knot inside = either();
            demand(is(")"), 1);
            open--;
            at++;
            return inside;
        }
        if (isNumber()) {
            number(0, 9999);
            at--;
        } else {
            demand(NAMES.contains(tokens.get(at)), 1);
        }
        return new Knot(knot(), null, null);
    }
}
