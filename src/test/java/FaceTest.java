import java.lang.reflect.Constructor;
import java.lang.reflect.Method;
import java.lang.reflect.Modifier;
import java.util.ArrayList;
import java.util.List;

/** 'The public face' of the document: each line of it is there, and nothing else is. */
public final class FaceTest {
    public static void main(String[] args) {
        List<String> due = told();
        List<String> got = found();
        for (String line : due) {
            Check.due("The public face: is there '" + line + "'", got.contains(line), true);
        }
        for (String line : got) {
            Check.due("The public face: does the document say '" + line + "'", due.contains(line), true);
        }
        Check.due("The public face: lines told", due.size(), 1 + 1 + 40);
        int kind = StrawMen.class.getModifiers();
        Check.due("The public face: public", Modifier.isPublic(kind), true);
        Check.due("The public face: final", Modifier.isFinal(kind), true);
        Check.due("The public face: NONE", StrawMen.NONE, -1);
        Check.due("The public face: public fields", StrawMen.class.getFields().length, 1);
        for (Class<?> inside : StrawMen.class.getDeclaredClasses()) {
            Check.due("a class inside that is public: " + inside, Modifier.isPublic(inside.getModifiers()), false);
        }
        Check.end("FaceTest");
    }

    /** The document's lines, without the names of what is handed over. */
    private static List<String> told() {
        List<String> lines = new ArrayList<>();
        boolean inside = false;
        for (String line : Doc.lines()) {
            inside = line.startsWith("public final class") || inside && !line.startsWith("}");
            String words = line.trim().replaceAll("(int|long|boolean) \\w+(?=[,)])", "$1").replace(";", "");
            if (inside && words.startsWith("public ") && !words.startsWith("public final class")) {
                lines.add(words);
            }
        }
        return lines;
    }

    private static List<String> found() {
        List<String> lines = new ArrayList<>();
        lines.add("public static final int NONE = " + StrawMen.NONE);
        for (Constructor<?> made : StrawMen.class.getConstructors()) {
            lines.add("public StrawMen(" + names(made.getParameterTypes()) + ")" + thrown(made.getExceptionTypes()));
        }
        for (Method method : StrawMen.class.getDeclaredMethods()) {
            if (!Modifier.isPrivate(method.getModifiers())) {
                lines.add(Modifier.toString(method.getModifiers()) + " " + method.getReturnType().getSimpleName() + " "
                    + method.getName() + "(" + names(method.getParameterTypes()) + ")" + thrown(method.getExceptionTypes()));
            }
        }
        return lines;
    }

    private static String names(Class<?>[] types) {
        List<String> names = new ArrayList<>();
        for (Class<?> type : types) {
            names.add(type.getSimpleName());
        }
        return String.join(", ", names);
    }

    private static String thrown(Class<?>[] types) {
        return types.length == 0 ? "" : " throws " + names(types);
    }
}
