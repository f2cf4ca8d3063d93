import java.lang.reflect.InvocationTargetException;
import java.lang.reflect.Method;
import java.util.ArrayList;
import java.util.HashMap;
import java.util.List;
import java.util.Map;
import java.util.Random;
import java.util.regex.Matcher;
import java.util.regex.Pattern;

/** All promises: runs of calls made by chance, each call of the class against the same call of Plain. */
public final class PlainTest {
    private static final Pattern FACE = Pattern.compile(" {4}public (?:int|long|boolean) (\\w+)\\((.*)\\).*;");
    // Calls that a run may keep to, so that much piles up of what they do.
    private static final List<List<String>> TOGETHER = List.of(
        List.of("debate", "take", "drop", "undo", "count", "member", "straw", "keep", "back", "go"),
        List.of("see", "strike", "known", "held", "ask", "count"),
        List.of("debate", "take", "drop", "points", "agreed", "rests", "rest", "match", "force", "undo"),
        List.of("go", "ahead", "sheds", "chance", "tried", "law", "keep", "back", "debate"));
    // How many there are of what; 2, where it isn't named here.
    private static final Map<String, Integer> WHATS = Map.ofEntries(Map.entry("claim", 4), Map.entry("straw", 3),
        Map.entry("member", 3), Map.entry("law", 3), Map.entry("named", 3), Map.entry("ahead", 5), Map.entry("set", 3),
        Map.entry("standing", 3), Map.entry("dropFor", 3), Map.entry("match", 6), Map.entry("tried", 5),
        Map.entry("count", 16));
    private static final int RUNS = 500;
    private static final int CALLS_MOST = 512;
    private static final int[] STRANGE = {-1, -2, 5, 6, 7, 8, 9, 12, 13, 16, 24, 25, 31, 32, 33, 60, 61, 64, 99, 100, 199, 200,
        201, 256, Integer.MAX_VALUE, Integer.MIN_VALUE};

    private final Random random;
    private final StrawMen x = new StrawMen();
    private final Plain plain = new Plain();
    private final StringBuilder history = new StringBuilder();
    private int calls = 0;

    private PlainTest(long seed) {
        random = new Random(seed);
    }

    public static void main(String[] args) throws ReflectiveOperationException {
        Map<String, String[]> face = face();
        List<String> names = new ArrayList<>(face.keySet());
        long first = args.length > 0 ? Long.parseLong(args[0]) : 0;
        int runs = args.length > 1 ? Integer.parseInt(args[1]) : RUNS;
        for (long seed = first; seed < first + runs; seed++) {
            new PlainTest(seed).run(face, names);
        }
        Check.end("PlainTest");
    }

    /** The calls of the document's face with the names of what is handed over. */
    private static Map<String, String[]> face() {
        Map<String, String[]> face = new HashMap<>();
        for (String line : Doc.lines()) {
            Matcher call = FACE.matcher(line);
            if (call.matches()) {
                String given = call.group(2).replaceAll("(int|boolean) ", "");
                face.put(call.group(1), given.isEmpty() ? new String[0] : given.split(", "));
            }
        }
        Check.due("calls of the face", face.size(), Doc.PROMISES - 1);
        return face;
    }

    private void run(Map<String, String[]> face, List<String> names) throws ReflectiveOperationException {
        if (random.nextInt(10) > 0) {
            tell(new TextByChance(random).text());
        }
        int most = 20 + random.nextInt(CALLS_MOST - 100);
        List<String> kept = random.nextBoolean() ? names : TOGETHER.get(random.nextInt(TOGETHER.size()));
        while (calls < most) {
            List<String> from = random.nextInt(10) == 0 ? names : kept;
            String name = from.get(random.nextInt(from.size()));
            if (random.nextInt(100) == 0 && calls + 40 < CALLS_MOST) {
                tell(new TextByChance(random).text());
            } else if (!name.equals("feed") && !name.equals("text") || random.nextInt(20) == 0) {
                call(name, given(name, face.get(name)));
            }
        }
    }

    private void tell(String text) throws ReflectiveOperationException {
        int[] row = new int[5];
        history.append(" [").append(text).append("]");
        for (int i = 0; i < text.length() || i % 20 != 0; i++) {
            row[i % 20 / 4] = row[i % 20 / 4] << 8 | (i < text.length() ? text.charAt(i) : 32);
            if (i % 20 == 19) {
                call("feed", row[0], row[1], row[2], row[3], row[4]);
            }
        }
        call("text", text.length());
        call("fault", 0);
        call("fault", 1);
    }

    private void call(String name, Object... given) throws ReflectiveOperationException {
        calls++;
        StringBuilder words = new StringBuilder(name).append('(');
        Class<?>[] types = new Class<?>[given.length];
        for (int i = 0; i < given.length; i++) {
            types[i] = given[i] instanceof Boolean ? boolean.class : int.class;
            words.append(i > 0 ? ", " : "").append(given[i]);
        }
        words.append(')');
        String got = answer(StrawMen.class.getMethod(name, types), x, given);
        String due = answer(Plain.class.getDeclaredMethod(name, types), plain, given);
        if (!name.equals("feed")) {
            history.append(' ').append(words);
        }
        if (!got.equals(due)) {
            Check.due(words + " answered " + got + ", Plain says " + due + "; as the last of" + history, 0, 1);
        } else {
            Check.due(name, 0, 0);
        }
    }

    private static String answer(Method method, Object whose, Object... given) throws ReflectiveOperationException {
        try {
            return method.invoke(whose, given).toString();
        } catch (InvocationTargetException thrown) {
            return thrown.getCause().getClass().getSimpleName();
        }
    }

    private Object[] given(String name, String[] parameters) {
        Object[] given = new Object[parameters.length];
        for (int i = 0; i < given.length; i++) {
            given[i] = parameters[i].equals("atLeast") ? (Object) random.nextBoolean() : (Object) number(name, parameters[i]);
        }
        return given;
    }

    private int number(String name, String parameter) {
        if (random.nextInt(40) == 0) {
            return STRANGE[random.nextInt(STRANGE.length)];
        }
        switch (parameter) {
            case "claim":
                return random.nextInt(1 + plain.count(0));
            case "straw":
                return below(plain.count(2));
            case "member":
            case "one":
            case "other":
                return below(plain.count(3));
            case "i":
                return random.nextInt(3) == 0 ? random.nextInt(4) : 0;
            case "claims":
                return random.nextInt(1 + (1 << plain.count(0)));
            case "what":
                return below(WHATS.getOrDefault(name, 2));
            case "letters":
                return TextByChance.letters(random);
            case "nights":
                return random.nextInt(10) == 0 ? random.nextInt(62) : 1 + random.nextInt(12);
            case "wins":
                return random.nextInt(10) == 0 ? random.nextInt(14) : random.nextInt(4);
            case "seed":
                return random.nextInt();
            case "seen":
                return random.nextInt(random.nextBoolean() ? 5 : 24);
            case "n":
                return nights(name);
            default:
                return random.nextInt(6);
        }
    }

    // Now and then one that there is none of.
    private int below(int bound) {
        return random.nextInt(bound == 0 || random.nextInt(12) == 0 ? bound + 1 : bound);
    }

    private int nights(String name) {
        switch (name) {
            case "known":
                return random.nextInt(random.nextBoolean() ? 26 : 6) - 1;
            case "dry":
                return random.nextInt(8);
            case "go":
                return random.nextInt(40) == 0 ? 200 : random.nextInt(random.nextInt(8) == 0 ? 20 : 3);
            default:
                return random.nextInt(random.nextInt(4) == 0 ? 202 : 12);
        }
    }
}
