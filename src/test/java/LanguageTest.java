import com.sun.source.tree.ClassTree;
import com.sun.source.tree.CompilationUnitTree;
import com.sun.source.tree.DoWhileLoopTree;
import com.sun.source.tree.ForLoopTree;
import com.sun.source.tree.LiteralTree;
import com.sun.source.tree.MethodInvocationTree;
import com.sun.source.tree.MethodTree;
import com.sun.source.tree.NewArrayTree;
import com.sun.source.tree.NewClassTree;
import com.sun.source.tree.Tree;
import com.sun.source.tree.VariableTree;
import com.sun.source.tree.WhileLoopTree;
import com.sun.source.util.JavacTask;
import com.sun.source.util.TreePath;
import com.sun.source.util.TreePathScanner;
import com.sun.source.util.Trees;
import java.io.IOException;
import java.nio.file.Files;
import java.nio.file.Path;
import java.util.EnumSet;
import java.util.List;
import java.util.Set;
import java.util.TreeMap;
import java.util.TreeSet;
import javax.lang.model.element.Element;
import javax.lang.model.element.Modifier;
import javax.tools.JavaCompiler;
import javax.tools.StandardJavaFileManager;
import javax.tools.ToolProvider;

/** Rules of LANGUAGE.md that the class's own lines show, by the compiler's trees; run from the project's folder. */
public final class LanguageTest extends TreePathScanner<Void, Void> {
    private static final Path TESTED = Path.of("src/main/java/BeadWords.java");
    private static final Check CHECK = new Check();
    private static final int MOST_CLASSES = 12, MOST_FIELDS = 20, MOST_PARAMETERS = 7, MOST_LINES = 60, MOST_DEPTH = 8;

    /** Rules 2, 4, 6: what there may be none of. */
    private static final Set<Tree.Kind> RULED_OUT = EnumSet.of(Tree.Kind.THROW, Tree.Kind.TRY, Tree.Kind.CATCH,
        Tree.Kind.SYNCHRONIZED, Tree.Kind.ASSERT, Tree.Kind.LAMBDA_EXPRESSION, Tree.Kind.MEMBER_REFERENCE, Tree.Kind.IMPORT,
        Tree.Kind.PACKAGE, Tree.Kind.TYPE_CAST, Tree.Kind.SWITCH_EXPRESSION, Tree.Kind.ANNOTATION);
    /** Rule 3: the types that the class has use for. */
    private static final Set<String> TYPES = Set.of("int", "boolean", "void", "int[]", "String", "Image[]", "Sheet[]");
    /** Rule 4: of the library, what the class has use for. */
    private static final Set<String> LIBRARY = Set.of("java.lang.String.length", "java.lang.String.charAt",
        "java.lang.System.arraycopy");

    private final CompilationUnitTree unit;
    private final Trees trees;
    private final Set<String> classes = new TreeSet<>();
    /** By a method's whole name those that it calls. */
    private final TreeMap<String, Set<String>> calls = new TreeMap<>();
    private final Set<String> open = new TreeSet<>();
    private String inMethod = "";
    private boolean making = false;

    private LanguageTest(CompilationUnitTree unit, Trees trees) {
        this.unit = unit;
        this.trees = trees;
    }

    public static void main(String[] args) throws IOException {
        List<String> lines = Files.readAllLines(TESTED);
        for (int i = 0; i < lines.size(); i++) {
            CHECK.due("line " + (i + 1) + " has signs 32 to 126", lines.get(i).matches("[ -~]*") ? 1 : 0, 1);
        }
        JavaCompiler compiler = ToolProvider.getSystemJavaCompiler();
        try (StandardJavaFileManager files = compiler.getStandardFileManager(null, null, null)) {
            JavacTask task = (JavacTask) compiler.getTask(null, files, null, List.of("--release", "17", "-proc:none"), null,
                files.getJavaFileObjects(TESTED));
            CompilationUnitTree unit = task.parse().iterator().next();
            task.analyze();
            LanguageTest test = new LanguageTest(unit, Trees.instance(task));
            CHECK.due("classes in the file beside each other", unit.getTypeDecls().size(), 1);
            test.scan(unit, null);
            test.depths();
        }
        CHECK.end();
    }

    private void due(String what, Tree where, boolean is) {
        long line = unit.getLineMap().getLineNumber(trees.getSourcePositions().getStartPosition(unit, where));
        CHECK.due("line " + line + ": " + what, is ? 1 : 0, 1);
    }

    private Element meant(Tree tree) {
        return trees.getElement(new TreePath(getCurrentPath(), tree));
    }

    @Override
    public Void scan(Tree tree, Void nothing) {
        if (tree != null) {
            boolean made = tree.getKind() == Tree.Kind.TYPE_CAST && isNarrowing(tree);
            due("no " + tree.getKind(), tree, made || !RULED_OUT.contains(tree.getKind()));
        }
        return super.scan(tree, nothing);
    }

    private static boolean isNarrowing(Tree cast) {
        return cast.toString().startsWith("(byte)") || cast.toString().startsWith("(short)");
    }

    @Override
    public Void visitClass(ClassTree tree, Void nothing) {
        Set<Modifier> flags = tree.getModifiers().getFlags();
        boolean outer = classes.isEmpty();
        classes.add(tree.getSimpleName().toString());
        due("rule 11: too many classes", tree, classes.size() <= MOST_CLASSES);
        due("rule 2: a static class in the class", tree, outer || flags.contains(Modifier.STATIC));
        due("rule 2: a class with a name", tree, !tree.getSimpleName().isEmpty());
        int fields = 0;
        for (Tree member : tree.getMembers()) {
            due("rule 5: no initialiser block", member, member.getKind() != Tree.Kind.BLOCK);
            if (member instanceof VariableTree field && !field.getModifiers().getFlags().contains(Modifier.STATIC)) {
                fields++;
            }
        }
        due("rule 11: too many fields", tree, fields <= MOST_FIELDS);
        return super.visitClass(tree, nothing);
    }

    @Override
    public Void visitMethod(MethodTree tree, Void nothing) {
        long from = unit.getLineMap().getLineNumber(trees.getSourcePositions().getStartPosition(unit, tree));
        long to = unit.getLineMap().getLineNumber(Math.max(0, trees.getSourcePositions().getEndPosition(unit, tree)));
        due("rule 11: too many lines", tree, to - from < MOST_LINES);
        due("rule 11: too many parameters", tree, tree.getParameters().size() <= MOST_PARAMETERS);
        due("rule 1: not protected", tree, !tree.getModifiers().getFlags().contains(Modifier.PROTECTED));
        due("rule 3: " + tree.getReturnType(), tree, tree.getReturnType() == null || isAllowed(tree.getReturnType()));
        inMethod = wholeName(trees.getElement(getCurrentPath()));
        making = tree.getName().contentEquals("<init>");
        calls.put(inMethod, new TreeSet<>());
        super.visitMethod(tree, nothing);
        inMethod = "";
        return null;
    }

    @Override
    public Void visitVariable(VariableTree tree, Void nothing) {
        Set<Modifier> flags = tree.getModifiers().getFlags();
        due("rule 3: " + tree.getType(), tree, isAllowed(tree.getType()));
        due("rule 5: a static field that is final, a number", tree, !flags.contains(Modifier.STATIC)
            || flags.contains(Modifier.FINAL) && tree.getType().toString().equals("int"));
        return super.visitVariable(tree, nothing);
    }

    private boolean isAllowed(Tree type) {
        return TYPES.contains(type.toString()) || isOwn(trees.getElement(new TreePath(getCurrentPath(), type)));
    }

    private static boolean isOwn(Element type) {
        return type != null && type.getEnclosingElement() != null && type.getEnclosingElement().toString().equals("BeadWords");
    }

    /** Rule 12: no call makes an object or a row; constructors do, and the fields as they are made. */
    @Override
    public Void visitNewClass(NewClassTree tree, Void nothing) {
        due("rule 12: made in a constructor", tree, making || inMethod.isEmpty());
        return super.visitNewClass(tree, nothing);
    }

    @Override
    public Void visitNewArray(NewArrayTree tree, Void nothing) {
        due("rule 12: made in a constructor", tree, making || inMethod.isEmpty());
        return super.visitNewArray(tree, nothing);
    }

    @Override
    public Void visitMethodInvocation(MethodInvocationTree tree, Void nothing) {
        Element called = meant(tree.getMethodSelect());
        String name = wholeName(called);
        boolean own = name.startsWith("BeadWords.");
        due("rule 4: " + name, tree, own || LIBRARY.contains(name) || name.endsWith(".<init>"));
        if (own && !inMethod.isEmpty()) {
            calls.get(inMethod).add(name);
        }
        return super.visitMethodInvocation(tree, nothing);
    }

    private static String wholeName(Element method) {
        return method.getEnclosingElement() + "." + method.getSimpleName();
    }

    /** Rule 9: a loop says itself when it ends. */
    @Override
    public Void visitForLoop(ForLoopTree tree, Void nothing) {
        due("rule 9: a loop with an end", tree, tree.getCondition() != null && !tree.getUpdate().isEmpty());
        return super.visitForLoop(tree, nothing);
    }

    @Override
    public Void visitWhileLoop(WhileLoopTree tree, Void nothing) {
        due("rule 9: a loop with an end", tree, !tree.getCondition().toString().equals("(true)"));
        return super.visitWhileLoop(tree, nothing);
    }

    @Override
    public Void visitDoWhileLoop(DoWhileLoopTree tree, Void nothing) {
        due("rule 9: a loop with an end", tree, !tree.getCondition().toString().equals("(true)"));
        return super.visitDoWhileLoop(tree, nothing);
    }

    /** Rule 4: the signs of a text are 1 to 127. */
    @Override
    public Void visitLiteral(LiteralTree tree, Void nothing) {
        if (tree.getValue() instanceof String text) {
            due("rule 4: signs of a text", tree, text.chars().allMatch(c -> c >= 1 && c <= 127));
        }
        return super.visitLiteral(tree, nothing);
    }

    /** Rules 8, 11: no method comes back to itself, and none goes deeper than eight calls. */
    private void depths() {
        for (String method : calls.keySet()) {
            CHECK.due("rule 11: calls too deep from " + method, depth(method) > MOST_DEPTH ? 1 : 0, 0);
        }
    }

    private int depth(String method) {
        if (!open.add(method)) {
            CHECK.due("rule 8: it calls itself: " + method, 1, 0);
            return 0;
        }
        int deepest = 0;
        for (String called : calls.getOrDefault(method, Set.of())) {
            deepest = Math.max(deepest, depth(called));
        }
        open.remove(method);
        return deepest + 1;
    }
}
