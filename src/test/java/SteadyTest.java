import java.lang.reflect.InvocationTargetException;
import java.lang.reflect.Method;
import java.lang.reflect.Modifier;
import java.util.ArrayList;
import java.util.Arrays;
import java.util.Comparator;
import java.util.List;
import java.util.NoSuchElementException;
import java.util.Random;

/** The face as the document has it; no call throws what it doesn't say, asking changes nothing, runs repeat. */
public final class SteadyTest {
    private static final String FACE = "agreed ahead ask back chance claim count debate drop dropFor dry fault feed force "
        + "go ground held keep known largest law match member named points replies rest rests see set sheds stand "
        + "standing straw strike take text tried undo weaker";
    private static final List<String> ACTS = List.of("feed", "text", "debate", "take", "drop", "go", "see", "strike",
        "known", "undo", "keep", "back");
    private static final int[] NUMBERS = {0, 1, 2, 3, 4, 5, 6, 7, 8, 9, 12, 13, 15, 16, 20, 23, 24, 25, 31, 32, 60, 61,
        99, 100, 199, 200, 201, 255, 256, 700, 701, -1, -2, 1 << 25, Integer.MAX_VALUE, Integer.MIN_VALUE};
    private static final String[] TEXTS = {
        Check.FIVE_CLAIMS,
        "claim a 40 1;claim b 60 2;contra a b;straw s b 50;member x;member y;holds x a;debate x s 0;debate y s 0;"
            + "debate x s 1;damp 30;law lean weight * full / 100 + night * 30;law wear temper * 3 + force / 8;"
            + "law turn wins < 1 and held < 2;seed 0;",
        "claim a 9 1;claim b 8 2;claim c 7 3;claim d 6 4;claim e 5 5;claim f 4 6;claim g 3 7;claim h 2 8;"
            + "contra a b;contra b c;contra c d;contra d e;contra e f;contra f g;contra g h;contra h a;contra a c;"
            + "contra b a;contra c a;contra d a;contra e a;contra f a;contra g a;contra b d;"
            + "straw p a 9;straw q b 9;straw r c 9;straw s d 9;straw t e 9;member v;member w;member x;member y;member z;"
            + "holds v a;holds w b;holds x c;holds y d;holds z e;damp 60;law lean full / 3;debate v q 0;debate w r 1;"
            + "debate x s 2;stuff q 4;law turn 1;",
        "straw", "law lean ((((1", "\u00ff", ""};

    public static void main(String[] args) throws ReflectiveOperationException {
        face();
        Method[] methods = methods();
        for (int seed = 0; seed < 60; seed++) {
            run(methods, seed);
        }
        Check.end("SteadyTest");
    }

    private static Method[] methods() {
        Method[] all = StrawMen.class.getDeclaredMethods();
        List<Method> open = new ArrayList<>();
        for (Method method : all) {
            if (Modifier.isPublic(method.getModifiers())) {
                open.add(method);
            }
        }
        open.sort(Comparator.comparing(Method::getName));
        return open.toArray(new Method[0]);
    }

    private static void face() {
        StringBuilder names = new StringBuilder();
        for (Method method : methods()) {
            names.append(names.length() == 0 ? "" : " ").append(method.getName());
        }
        Check.due("the face: " + names, names.toString().equals(FACE), true);
        for (Method method : StrawMen.class.getDeclaredMethods()) {
            int kind = method.getModifiers();
            Check.due("open or private: " + method, Modifier.isPublic(kind) || Modifier.isPrivate(kind), true);
            boolean shadow = Modifier.isPrivate(kind) && Arrays.asList(FACE.split(" ")).contains(method.getName());
            Check.due("named as one of the face: " + method, shadow, false);
        }
        Check.due("public fields", StrawMen.class.getFields().length, 1);
        Check.due("constructors", StrawMen.class.getDeclaredConstructors().length, 1);
        Check.due("NONE", StrawMen.NONE, -1);
    }

    private static void run(Method[] methods, int seed) throws ReflectiveOperationException {
        Random random = new Random(seed);
        StrawMen x = new StrawMen();
        StrawMen twin = new StrawMen();
        String text = TEXTS[seed % TEXTS.length];
        int lines = Check.tell(x, text);
        Check.due("a twin's text", Check.tell(twin, text), lines);
        for (int call = 0; call < 200; call++) {
            Method method = methods[random.nextInt(methods.length)];
            Object[] values = new Object[method.getParameterCount()];
            for (int i = 0; i < values.length; i++) {
                boolean flag = method.getParameterTypes()[i] == boolean.class;
                int bound = random.nextInt(3) > 0 ? 5 : NUMBERS.length;
                values[i] = flag ? (Object) random.nextBoolean() : (Object) NUMBERS[random.nextInt(bound)];
            }
            String told = method.getName() + Arrays.toString(values);
            // The twin is asked only what changes it, so its answers show whether asking changed anything.
            String answer = answer(x, method, values);
            if (ACTS.contains(method.getName())) {
                String twins = answer(twin, method, values);
                Check.due(told + " of a twin: " + answer + ", " + twins, answer.equals(twins), true);
            }
        }
        for (int what = 0; what < 16; what++) {
            Check.due("count(" + what + ") of a twin", x.count(what), twin.count(what));
        }
    }

    private static String answer(StrawMen x, Method method, Object[] values) throws ReflectiveOperationException {
        try {
            return String.valueOf(method.invoke(x, values));
        } catch (InvocationTargetException e) {
            Class<?> thrown = e.getCause().getClass();
            boolean said = method.getName().equals("claim")
                && (thrown == IndexOutOfBoundsException.class || thrown == NoSuchElementException.class);
            Check.due(method.getName() + Arrays.toString(values) + " throws " + e.getCause(), said, true);
            return thrown.getName();
        }
    }
}
