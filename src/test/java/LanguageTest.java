import com.sun.source.tree.*;
import com.sun.source.util.JavacTask;
import com.sun.source.util.TreePath;
import com.sun.source.util.TreePathScanner;
import com.sun.source.util.Trees;
import java.nio.file.Path;
import java.util.ArrayList;
import java.util.HashMap;
import java.util.HashSet;
import java.util.List;
import java.util.Map;
import java.util.Set;
import java.util.TreeSet;
import javax.lang.model.element.Element;
import javax.lang.model.element.ElementKind;
import javax.lang.model.element.ExecutableElement;
import javax.lang.model.element.Modifier;
import javax.lang.model.element.TypeElement;
import javax.lang.model.element.VariableElement;
import javax.tools.JavaCompiler;
import javax.tools.StandardJavaFileManager;
import javax.tools.ToolProvider;

/** What of LANGUAGE.md can be told from the source of TwoAsks: its face, its library, its sizes, its calls. */
public final class LanguageTest extends TreePathScanner<Void, Void> {
    private static final String PROGRAM = "src/main/java/TwoAsks.java";
    private static final int LONGEST_METHOD = 60;
    private static final int MOST_PARAMETERS = 7;
    // one less than may be, as the one who calls may be counted
    private static final int DEEPEST_CALLS = 7;
    private static final int MOST_CLASSES = 12;
    private static final int MOST_FIELDS = 20;
    private static final Set<String> LIBRARY = Set.of("java.lang.String.length", "java.lang.String.charAt",
            "java.lang.Integer.bitCount", "java.lang.Math.max", "java.lang.Math.min", "java.lang.Math.abs",
            "java.lang.Math.floorMod", "java.lang.System.arraycopy", "java.util.Arrays.fill",
            "java.lang.Object.<init>");
    private static final Set<Tree.Kind> BARRED = Set.of(Tree.Kind.THROW, Tree.Kind.TRY, Tree.Kind.CATCH,
            Tree.Kind.SYNCHRONIZED, Tree.Kind.ASSERT, Tree.Kind.LAMBDA_EXPRESSION, Tree.Kind.MEMBER_REFERENCE,
            Tree.Kind.INSTANCE_OF, Tree.Kind.SWITCH_EXPRESSION, Tree.Kind.WHILE_LOOP, Tree.Kind.DO_WHILE_LOOP);
    private static final Set<String> FACE = Set.of("NONE", "MISSING", "feed", "back", "read", "place", "row", "comes",
            "two", "figure", "clash", "world", "tell", "forget", "fits", "sure", "span", "liars", "next", "once", "few",
            "meets", "game", "bad", "badSet", "allTold", "secret", "shared", "wrong", "hide", "ask", "asks", "enough",
            "shareRow", "cost", "degree", "worldsAt", "rest", "alike", "plus", "times", "margin", "pair", "unpair",
            "number", "hold", "restore", "count", "<init>");

    private final Trees trees;
    private final CompilationUnitTree unit;
    private final List<String> faults = new ArrayList<>();
    private final Map<ExecutableElement, Set<ExecutableElement>> calls = new HashMap<>();
    private int checked = 0;
    private int classes = 0;

    private LanguageTest(Trees trees, CompilationUnitTree unit) {
        this.trees = trees;
        this.unit = unit;
    }

    public static void main(String[] args) throws Exception {
        JavaCompiler compiler = ToolProvider.getSystemJavaCompiler();
        try (StandardJavaFileManager files = compiler.getStandardFileManager(null, null, null)) {
            JavacTask task = (JavacTask) compiler.getTask(null, files, null, List.of("-proc:none"), null,
                    files.getJavaFileObjects(Path.of(PROGRAM)));
            CompilationUnitTree unit = task.parse().iterator().next();
            task.analyze();
            LanguageTest test = new LanguageTest(Trees.instance(task), unit);
            test.scan(unit, null);
            test.closing();
        }
    }

    private void closing() {
        check(unit.getPackageName() == null, "a package line");
        check(unit.getTypeDecls().size() == 1, "more than one class in the file");
        check(classes <= MOST_CLASSES, classes + " classes");
        for (ExecutableElement method : calls.keySet()) {
            int depth = depth(method, new ArrayList<>());
            check(depth <= DEEPEST_CALLS, method + " calls " + depth + " deep, or itself");
        }
        faults.forEach(System.out::println);
        System.out.println(checked - faults.size() + " passed, " + faults.size() + " failed");
        if (!faults.isEmpty()) {
            System.exit(1);
        }
    }

    private void check(boolean well, String fault) {
        checked++;
        if (!well) {
            faults.add(fault);
        }
    }

    /** How many calls stand open at once at the most; there is no recursion. */
    private int depth(ExecutableElement method, List<ExecutableElement> open) {
        if (open.contains(method)) {
            return 1000;
        }
        List<ExecutableElement> now = new ArrayList<>(open);
        now.add(method);
        int deepest = 0;
        for (ExecutableElement called : calls.getOrDefault(method, Set.of())) {
            deepest = Math.max(deepest, depth(called, now));
        }
        return deepest + 1;
    }

    private long line(Tree tree, boolean end) {
        var places = trees.getSourcePositions();
        return unit.getLineMap().getLineNumber(end ? places.getEndPosition(unit, tree)
                : places.getStartPosition(unit, tree));
    }

    private Element element(Tree tree) {
        return trees.getElement(new TreePath(getCurrentPath(), tree));
    }

    @Override
    public Void scan(Tree tree, Void none) {
        if (tree != null) {
            // the one loop that doubles a size up to a bound may stay
            check(!BARRED.contains(tree.getKind()) || tree.toString().contains("size *= 2"),
                    "line " + line(tree, false) + ": " + tree.getKind());
        }
        return super.scan(tree, none);
    }

    @Override
    public Void visitImport(ImportTree tree, Void none) {
        check(tree.getQualifiedIdentifier().toString().equals("java.util.Arrays"), tree.toString());
        return super.visitImport(tree, none);
    }

    @Override
    public Void visitClass(ClassTree tree, Void none) {
        TypeElement type = (TypeElement) trees.getElement(getCurrentPath());
        classes++;
        boolean isFace = type.getEnclosingElement().getKind() == ElementKind.PACKAGE;
        check(isFace || type.getModifiers().contains(Modifier.STATIC), type + " is not static");
        check(type.getModifiers().contains(Modifier.FINAL), type + " is not final");
        int fields = 0;
        Set<String> open = new TreeSet<>();
        for (Element member : type.getEnclosedElements()) {
            String name = member.getSimpleName().toString();
            boolean isField = member.getKind() == ElementKind.FIELD;
            boolean isStatic = member.getModifiers().contains(Modifier.STATIC);
            fields += isField && !isStatic ? 1 : 0;
            check(!isField || !isStatic || ((VariableElement) member).getConstantValue() != null,
                    type + "." + name + " is static and no constant");
            if (isFace && !(member instanceof TypeElement) && !member.getModifiers().contains(Modifier.PRIVATE)) {
                check(member.getModifiers().contains(Modifier.PUBLIC), name + " is neither public nor private");
                open.add(name);
            } else if (member.getKind() == ElementKind.METHOD) {
                check(!FACE.contains(name), type + "." + name + " has the name of a public one");
            }
        }
        check(fields <= MOST_FIELDS, type + " has " + fields + " fields");
        check(!isFace || open.equals(new TreeSet<>(FACE)), "the face is " + open);
        return super.visitClass(tree, none);
    }

    @Override
    public Void visitMethod(MethodTree tree, Void none) {
        ExecutableElement method = (ExecutableElement) trees.getElement(getCurrentPath());
        calls.putIfAbsent(method, new HashSet<>());
        long lines = line(tree, true) - line(tree, false) + 1;
        check(lines <= LONGEST_METHOD, method + " has " + lines + " lines");
        check(tree.getParameters().size() <= MOST_PARAMETERS, method + " has too many parameters");
        return super.visitMethod(tree, none);
    }

    private void called(Element element) {
        if (!(element instanceof ExecutableElement)) {
            return;
        }
        ExecutableElement callee = (ExecutableElement) element;
        String owner = callee.getEnclosingElement().toString();
        if (!owner.startsWith("TwoAsks")) {
            String name = owner + "." + callee.getSimpleName();
            check(LIBRARY.contains(name), name + " is not in the library");
            return;
        }
        for (TreePath path = getCurrentPath(); path != null; path = path.getParentPath()) {
            if (path.getLeaf() instanceof MethodTree) {
                calls.computeIfAbsent((ExecutableElement) trees.getElement(path), made -> new HashSet<>()).add(callee);
            }
        }
    }

    @Override
    public Void visitMethodInvocation(MethodInvocationTree tree, Void none) {
        called(element(tree));
        return super.visitMethodInvocation(tree, none);
    }

    @Override
    public Void visitNewClass(NewClassTree tree, Void none) {
        check(madeOnce(), "line " + line(tree, false) + ": an object is made by a call");
        called(element(tree));
        return super.visitNewClass(tree, none);
    }

    @Override
    public Void visitNewArray(NewArrayTree tree, Void none) {
        check(madeOnce(), "line " + line(tree, false) + ": an array is made by a call");
        return super.visitNewArray(tree, none);
    }

    /** All that is made is made with the object, as all calls of a run share one room. */
    private boolean madeOnce() {
        for (TreePath path = getCurrentPath(); path != null; path = path.getParentPath()) {
            if (path.getLeaf() instanceof MethodTree) {
                return ((MethodTree) path.getLeaf()).getName().contentEquals("<init>");
            }
        }
        return true;
    }

    @Override
    public Void visitBinary(BinaryTree tree, Void none) {
        boolean joins = tree.getKind() == Tree.Kind.PLUS
                && (isText(tree.getLeftOperand()) || isText(tree.getRightOperand()));
        check(!joins, "line " + line(tree, false) + ": texts joined by +");
        return super.visitBinary(tree, none);
    }

    private boolean isText(Tree tree) {
        return tree.getKind() == Tree.Kind.STRING_LITERAL;
    }
}
