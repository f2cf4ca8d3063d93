import com.sun.source.tree.AssertTree;
import com.sun.source.tree.BinaryTree;
import com.sun.source.tree.BlockTree;
import com.sun.source.tree.ClassTree;
import com.sun.source.tree.CompilationUnitTree;
import com.sun.source.tree.DoWhileLoopTree;
import com.sun.source.tree.ForLoopTree;
import com.sun.source.tree.ImportTree;
import com.sun.source.tree.LambdaExpressionTree;
import com.sun.source.tree.LineMap;
import com.sun.source.tree.LiteralTree;
import com.sun.source.tree.MemberReferenceTree;
import com.sun.source.tree.MethodInvocationTree;
import com.sun.source.tree.MethodTree;
import com.sun.source.tree.NewArrayTree;
import com.sun.source.tree.NewClassTree;
import com.sun.source.tree.SynchronizedTree;
import com.sun.source.tree.ThrowTree;
import com.sun.source.tree.Tree;
import com.sun.source.tree.TryTree;
import com.sun.source.tree.VariableTree;
import com.sun.source.tree.WhileLoopTree;
import com.sun.source.util.JavacTask;
import com.sun.source.util.TreePath;
import com.sun.source.util.TreePathScanner;
import com.sun.source.util.Trees;
import java.io.IOException;
import java.nio.file.Path;
import java.util.HashMap;
import java.util.HashSet;
import java.util.LinkedHashMap;
import java.util.LinkedHashSet;
import java.util.List;
import java.util.Map;
import java.util.Set;
import javax.lang.model.element.Element;
import javax.lang.model.element.ElementKind;
import javax.lang.model.element.Modifier;
import javax.tools.JavaCompiler;
import javax.tools.StandardJavaFileManager;
import javax.tools.ToolProvider;

/** The rules of ../shared/LANGUAGE.md that can be seen from the class's source, each by its number. */
public final class LanguageTest extends TreePathScanner<Void, Void> {
    private static final Path SOURCE = Path.of("src", "main", "java", "StrawMen.java");
    // What the class uses of the library, all of it in rule 4; whoever uses more of it adds that here by the rule.
    private static final Set<String> LIBRARY = Set.of("String.length", "String.charAt", "Integer.bitCount", "Math.max",
        "Math.min");
    private static final Set<String> TYPES = Set.of("int", "long", "short", "byte", "char", "boolean", "void", "String", "int[]",
        "long[]", "short[]", "byte[]", "char[]", "boolean[]", "int[][]", "long[][]");
    private static final Set<String> THROWN = Set.of("IndexOutOfBoundsException", "NoSuchElementException");
    private static final int PARAMETERS_MOST = 7;
    private static final int LINES_MOST = 60;
    private static final int DEEP_MOST = 8;
    private static final int CLASSES_MOST = 12;
    private static final int FIELDS_MOST = 20;

    private final Trees trees;
    private final CompilationUnitTree unit;
    private final Set<String> classes = new LinkedHashSet<>();
    private final Map<Element, Set<Element>> calls = new LinkedHashMap<>();
    private final Map<Element, Integer> depths = new HashMap<>();
    private final Set<String> publicNames = new HashSet<>();
    private final Set<String> otherNames = new HashSet<>();
    private Element method;

    private LanguageTest(Trees trees, CompilationUnitTree unit) {
        this.trees = trees;
        this.unit = unit;
    }

    public static void main(String[] args) throws IOException {
        JavaCompiler compiler = ToolProvider.getSystemJavaCompiler();
        try (StandardJavaFileManager files = compiler.getStandardFileManager(null, null, null)) {
            JavacTask task = (JavacTask) compiler.getTask(null, files, null, List.of("-proc:none"), null,
                files.getJavaFileObjects(SOURCE));
            CompilationUnitTree unit = task.parse().iterator().next();
            task.analyze();
            LanguageTest rules = new LanguageTest(Trees.instance(task), unit);
            rules.scan(unit, null);
            rules.look();
        }
        Check.end("LanguageTest");
    }

    private void look() {
        rule(1, "one class in the file, no package line", unit.getTypeDecls().size() == 1 && unit.getPackage() == null);
        for (ImportTree one : unit.getImports()) {
            rule(4, "import " + one, one.getQualifiedIdentifier().toString().equals("java.util.NoSuchElementException"));
        }
        rule(11, "classes: " + classes, classes.size() <= CLASSES_MOST);
        Set<String> both = new HashSet<>(publicNames);
        both.retainAll(otherNames);
        rule(1, "no other method bears the name of a public one: " + both, both.isEmpty());
        Check.due("public methods that were looked at", publicNames.size(), Doc.PROMISES - 1);
        for (Element from : calls.keySet()) {
            int deep = depth(from);
            rule(11, from.getSimpleName() + " calls " + deep + " deep", deep <= DEEP_MOST);
        }
    }

    private static void rule(int number, String what, boolean kept) {
        Check.due("LANGUAGE.md, rule " + number + ": " + what, kept, true);
    }

    /** How many calls stand open at most, this one among them; those that call one another count once. */
    private int depth(Element from) {
        Integer known = depths.get(from);
        if (known != null) {
            return known;
        }
        int deepest = 0;
        for (Element to : reached(from)) {
            boolean again = reached(to).contains(from);
            deepest = again ? deepest : Math.max(deepest, depth(to));
        }
        depths.put(from, deepest + 1);
        return deepest + 1;
    }

    private Set<Element> reached(Element from) {
        Set<Element> all = new LinkedHashSet<>(calls.getOrDefault(from, Set.of()));
        for (boolean grown = true; grown;) {
            Set<Element> more = new LinkedHashSet<>();
            for (Element one : all) {
                more.addAll(calls.getOrDefault(one, Set.of()));
            }
            grown = all.addAll(more);
        }
        return all;
    }

    @Override
    public Void visitClass(ClassTree one, Void nothing) {
        Element element = trees.getElement(getCurrentPath());
        boolean inside = element.getEnclosingElement().getKind() == ElementKind.CLASS;
        Set<Modifier> kind = one.getModifiers().getFlags();
        classes.add(one.getSimpleName().toString());
        rule(1, one.getSimpleName() + " is as it may be", inside
            ? kind.contains(Modifier.STATIC) && !kind.contains(Modifier.PUBLIC) && !kind.contains(Modifier.PROTECTED)
            : kind.contains(Modifier.PUBLIC) && kind.contains(Modifier.FINAL));
        rule(2, one.getSimpleName() + " is a class of its own", element.getKind() == ElementKind.CLASS
            && (inside || element.getEnclosingElement().getKind() == ElementKind.PACKAGE));
        int fields = 0;
        for (Tree member : one.getMembers()) {
            boolean field = member instanceof VariableTree;
            if (field && !((VariableTree) member).getModifiers().getFlags().contains(Modifier.STATIC)) {
                fields++;
            }
            rule(5, "no block of " + one.getSimpleName() + " stands alone", !(member instanceof BlockTree));
        }
        rule(11, "fields of " + one.getSimpleName() + ": " + fields, fields <= FIELDS_MOST);
        return super.visitClass(one, nothing);
    }

    @Override
    public Void visitMethod(MethodTree one, Void nothing) {
        Element element = trees.getElement(getCurrentPath());
        String name = one.getName().toString();
        if (element.getKind() == ElementKind.METHOD) {
            (element.getModifiers().contains(Modifier.PUBLIC) ? publicNames : otherNames).add(name);
            type(one.getReturnType());
        }
        rule(11, name + " takes " + one.getParameters().size(), one.getParameters().size() <= PARAMETERS_MOST);
        long lines = lines(one);
        rule(11, name + " has " + lines + " lines", lines <= LINES_MOST);
        Element outer = method;
        method = element;
        calls.computeIfAbsent(element, key -> new LinkedHashSet<>());
        super.visitMethod(one, nothing);
        method = outer;
        return null;
    }

    private long lines(Tree tree) {
        LineMap map = unit.getLineMap();
        long from = trees.getSourcePositions().getStartPosition(unit, tree);
        long to = trees.getSourcePositions().getEndPosition(unit, tree);
        return map.getLineNumber(to) - map.getLineNumber(from) + 1;
    }

    private void type(Tree type) {
        String name = type.toString();
        rule(3, "the type " + name, TYPES.contains(name) || isOwn(name.replace("[]", "")) && !name.contains("[][]"));
    }

    private boolean isOwn(String name) {
        for (Tree top : unit.getTypeDecls()) {
            for (Tree member : ((ClassTree) top).getMembers()) {
                if (member instanceof ClassTree && ((ClassTree) member).getSimpleName().contentEquals(name)) {
                    return true;
                }
            }
        }
        return false;
    }

    @Override
    public Void visitVariable(VariableTree one, Void nothing) {
        type(one.getType());
        Element element = trees.getElement(getCurrentPath());
        if (element.getKind() == ElementKind.FIELD && element.getModifiers().contains(Modifier.STATIC)) {
            rule(5, one.getName() + " is final", element.getModifiers().contains(Modifier.FINAL));
        }
        return super.visitVariable(one, nothing);
    }

    @Override
    public Void visitMethodInvocation(MethodInvocationTree one, Void nothing) {
        Element called = trees.getElement(new TreePath(getCurrentPath(), one.getMethodSelect()));
        String owner = called.getEnclosingElement().getSimpleName().toString();
        boolean own = owner.equals("StrawMen") || isOwn(owner);
        boolean above = called.getKind() == ElementKind.CONSTRUCTOR;
        if (own) {
            calls.computeIfAbsent(method, key -> new LinkedHashSet<>()).add(called);
        } else if (!above) {
            rule(4, owner + "." + called.getSimpleName(), LIBRARY.contains(owner + "." + called.getSimpleName()));
        }
        return super.visitMethodInvocation(one, nothing);
    }

    // All that is made is made by constructors, so that no run of calls fills the room; but for what is thrown.
    @Override
    public Void visitNewClass(NewClassTree one, Void nothing) {
        Element made = trees.getElement(getCurrentPath());
        String name = one.getIdentifier().toString();
        boolean thrown = getCurrentPath().getParentPath().getLeaf() instanceof ThrowTree;
        rule(2, "no body of its own: new " + name, one.getClassBody() == null);
        rule(12, "new " + name + " in " + method, thrown || isOwn(name) && method.getKind() == ElementKind.CONSTRUCTOR);
        if (isOwn(name)) {
            calls.computeIfAbsent(method, key -> new LinkedHashSet<>()).add(made);
        }
        return super.visitNewClass(one, nothing);
    }

    @Override
    public Void visitNewArray(NewArrayTree one, Void nothing) {
        rule(12, "an array in " + method, method == null || method.getKind() == ElementKind.CONSTRUCTOR);
        return super.visitNewArray(one, nothing);
    }

    @Override
    public Void visitThrow(ThrowTree one, Void nothing) {
        boolean made = one.getExpression() instanceof NewClassTree;
        NewClassTree exception = made ? (NewClassTree) one.getExpression() : null;
        rule(6, "what is thrown: " + one, made && THROWN.contains(exception.getIdentifier().toString())
            && exception.getArguments().stream().allMatch(text -> text instanceof LiteralTree));
        rule(6, "who throws: " + method, method.getSimpleName().contentEquals("claim"));
        return super.visitThrow(one, nothing);
    }

    @Override
    public Void visitForLoop(ForLoopTree one, Void nothing) {
        Tree condition = one.getCondition();
        rule(9, "a loop with an end in " + method, condition != null && !(condition instanceof LiteralTree));
        return super.visitForLoop(one, nothing);
    }

    @Override
    public Void visitWhileLoop(WhileLoopTree one, Void nothing) {
        ends(one.getCondition());
        return super.visitWhileLoop(one, nothing);
    }

    @Override
    public Void visitDoWhileLoop(DoWhileLoopTree one, Void nothing) {
        ends(one.getCondition());
        return super.visitDoWhileLoop(one, nothing);
    }

    // The class's bounds all bear such names.
    private void ends(Tree condition) {
        rule(9, "a loop with a bound in " + method + ": " + condition, condition.toString().contains("_MOST"));
    }

    @Override
    public Void visitBinary(BinaryTree one, Void nothing) {
        rule(10, "no texts are joined by +: " + one, !trees.getTypeMirror(getCurrentPath()).toString().endsWith("String"));
        return super.visitBinary(one, nothing);
    }

    @Override
    public Void visitTry(TryTree one, Void nothing) {
        rule(6, "nothing is caught, so nothing of the machine's is", false);
        return super.visitTry(one, nothing);
    }

    @Override
    public Void visitLambdaExpression(LambdaExpressionTree one, Void nothing) {
        rule(2, "no lambda: " + one, false);
        return super.visitLambdaExpression(one, nothing);
    }

    @Override
    public Void visitMemberReference(MemberReferenceTree one, Void nothing) {
        rule(2, "no method reference: " + one, false);
        return super.visitMemberReference(one, nothing);
    }

    @Override
    public Void visitSynchronized(SynchronizedTree one, Void nothing) {
        rule(6, "no synchronized", false);
        return super.visitSynchronized(one, nothing);
    }

    @Override
    public Void visitAssert(AssertTree one, Void nothing) {
        rule(6, "no assert", false);
        return super.visitAssert(one, nothing);
    }
}
