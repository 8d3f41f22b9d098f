import com.sun.source.tree.ClassTree;
import com.sun.source.tree.CompilationUnitTree;
import com.sun.source.tree.ExpressionTree;
import com.sun.source.tree.ForLoopTree;
import com.sun.source.tree.MethodInvocationTree;
import com.sun.source.tree.MethodTree;
import com.sun.source.tree.NewClassTree;
import com.sun.source.tree.ThrowTree;
import com.sun.source.tree.Tree;
import com.sun.source.tree.VariableTree;
import com.sun.source.util.JavacTask;
import com.sun.source.util.SourcePositions;
import com.sun.source.util.TreePathScanner;
import com.sun.source.util.Trees;
import java.io.IOException;
import java.nio.file.Path;
import java.util.HashSet;
import java.util.List;
import java.util.Map;
import java.util.Set;
import java.util.TreeMap;
import java.util.TreeSet;
import javax.lang.model.element.Element;
import javax.lang.model.element.ElementKind;
import javax.lang.model.element.Modifier;
import javax.tools.JavaCompiler;
import javax.tools.StandardJavaFileManager;
import javax.tools.ToolProvider;

/**
 * Rules 2, 4 to 6, 8, 9 and 11 of LANGUAGE.md, as far as the compiler's tree of the source tells them.
 * Rule 1 and words that never stand in the source are FaceTest's; the other rules are held by reading.
 */
public final class LanguageTest extends TreePathScanner<Void, Void> {
    private static final Check CHECK = new Check();
    private static final Path SOURCE = Path.of("src/main/java/RegisterGateway.java");
    /** What the source uses of rule 4's list. */
    private static final Set<String> LIBRARY = Set.of("java.util.ArrayList.add", "java.util.ArrayList.get",
            "java.util.ArrayList.remove", "java.util.ArrayList.size", "java.util.ArrayList.isEmpty",
            "java.util.ArrayList.<init>", "java.util.Arrays.fill", "java.lang.System.arraycopy", "java.lang.Math.min",
            "java.lang.Math.max", "java.lang.Math.floorMod", "java.lang.Long.bitCount", "java.lang.Object.<init>");
    private static final Set<String> THROWN = Set.of("IllegalStateException", "IllegalArgumentException",
            "IndexOutOfBoundsException");
    private static final Set<String> CONSTANTS = Set.of("int", "long", "boolean", "char", "String", "int[]", "long[]",
            "char[]", "byte[]");
    private static final Set<Tree.Kind> OUTSIDE = Set.of(Tree.Kind.LAMBDA_EXPRESSION, Tree.Kind.MEMBER_REFERENCE,
            Tree.Kind.SYNCHRONIZED, Tree.Kind.ASSERT, Tree.Kind.TRY, Tree.Kind.INSTANCE_OF, Tree.Kind.ENHANCED_FOR_LOOP,
            Tree.Kind.WHILE_LOOP, Tree.Kind.DO_WHILE_LOOP, Tree.Kind.TYPE_CAST, Tree.Kind.FLOAT_LITERAL,
            Tree.Kind.DOUBLE_LITERAL);

    private final Trees trees;
    private final CompilationUnitTree unit;
    private final SourcePositions positions;
    private final Map<String, Set<String>> calls = new TreeMap<>();
    private String method = "";
    private boolean inConstructor = false;
    private int classes = 0;
    private int loops = 0;

    private LanguageTest(Trees trees, CompilationUnitTree unit) {
        this.trees = trees;
        this.unit = unit;
        positions = trees.getSourcePositions();
    }

    private void holds(String rule, Tree where, boolean so) {
        long line = unit.getLineMap().getLineNumber(positions.getStartPosition(unit, where));
        CHECK.due(rule + ", line " + line, so, true);
    }

    private static String nameOf(Element element) {
        return element.getEnclosingElement() + "." + element.getSimpleName();
    }

    @Override
    public Void scan(Tree tree, Void nothing) {
        if (tree != null) {
            holds("not used: " + tree.getKind(), tree, !OUTSIDE.contains(tree.getKind()));
        }
        return super.scan(tree, nothing);
    }

    @Override
    public Void visitClass(ClassTree tree, Void nothing) {
        classes++;
        int fields = 0;
        for (Tree member : tree.getMembers()) {
            holds("rule 5: no initialiser block", member, member.getKind() != Tree.Kind.BLOCK);
            if (member instanceof VariableTree field) {
                boolean isStatic = field.getModifiers().getFlags().contains(Modifier.STATIC);
                fields += isStatic ? 0 : 1;
                holds("rule 5: static fields are final constants", member, !isStatic
                        || field.getModifiers().getFlags().contains(Modifier.FINAL)
                        && field.getInitializer() != null && CONSTANTS.contains(field.getType().toString()));
            }
        }
        holds("rule 11: some twenty fields", tree, fields <= 20);
        return super.visitClass(tree, nothing);
    }

    @Override
    public Void visitMethod(MethodTree tree, Void nothing) {
        Element element = trees.getElement(getCurrentPath());
        method = nameOf(element);
        inConstructor = element.getKind() == ElementKind.CONSTRUCTOR;
        calls.computeIfAbsent(method, c -> new TreeSet<>());
        holds("rule 11: at most seven parameters", tree, tree.getParameters().size() <= 7);
        long first = positions.getStartPosition(unit, tree);
        long last = positions.getEndPosition(unit, tree);
        long lines = first < 0 || last < 0 ? 0 : unit.getLineMap().getLineNumber(last) - unit.getLineMap().getLineNumber(first) + 1;
        holds("rule 11: some sixty lines", tree, lines <= 60);
        return super.visitMethod(tree, nothing);
    }

    /** What a field's initialiser calls is called by the constructor. */
    @Override
    public Void visitVariable(VariableTree tree, Void nothing) {
        if (getCurrentPath().getParentPath().getLeaf() instanceof ClassTree) {
            method = trees.getElement(getCurrentPath()).getEnclosingElement() + ".<init>";
        }
        return super.visitVariable(tree, nothing);
    }

    private void noteCall(Tree tree, Element called) {
        String name = nameOf(called);
        if (name.startsWith("RegisterGateway")) {
            calls.computeIfAbsent(method, c -> new TreeSet<>()).add(name);
        } else {
            boolean isThrown = THROWN.contains(name.replace("java.lang.", "").replace(".<init>", ""));
            holds("rule 4: " + name, tree, isThrown || LIBRARY.contains(name));
        }
    }

    @Override
    public Void visitMethodInvocation(MethodInvocationTree tree, Void nothing) {
        noteCall(tree, trees.getElement(getCurrentPath()));
        return super.visitMethodInvocation(tree, nothing);
    }

    @Override
    public Void visitNewClass(NewClassTree tree, Void nothing) {
        noteCall(tree, trees.getElement(getCurrentPath()));
        holds("rule 2: no anonymous class", tree, tree.getClassBody() == null);
        return super.visitNewClass(tree, nothing);
    }

    @Override
    public Void visitThrow(ThrowTree tree, Void nothing) {
        ExpressionTree thrown = tree.getExpression();
        boolean written = thrown instanceof NewClassTree made && THROWN.contains(made.getIdentifier().toString())
                && made.getArguments().size() <= 1
                && made.getArguments().stream().allMatch(a -> a.getKind() == Tree.Kind.STRING_LITERAL);
        holds("rule 6: throw new E(\"a written text\")", tree, written);
        holds("rule 6: no throw in a constructor", tree, !inConstructor);
        return super.visitThrow(tree, nothing);
    }

    /** A counter is compared in the head and changed there, by one each time. */
    @Override
    public Void visitForLoop(ForLoopTree tree, Void nothing) {
        loops++;
        String condition = String.valueOf(tree.getCondition());
        String update = tree.getUpdate().toString().replace(";", "");
        String counter = update.replaceAll("\\W", "");
        holds("rule 9: a counter against a bound", tree, (update.endsWith("++") || update.endsWith("--"))
                && condition.matches(".*\\b" + counter + " (<|<=|>|>=) .*"));
        return super.visitForLoop(tree, nothing);
    }

    /** How many own calls stand open at most, this one included. */
    private int depth(String name, Set<String> open) {
        open.add(name);
        int deepest = 0;
        for (String called : calls.getOrDefault(name, Set.of())) {
            CHECK.due("rule 8: no recursion, " + name + " calls " + called, open.contains(called), false);
            deepest = Math.max(deepest, open.contains(called) ? 0 : depth(called, open));
        }
        open.remove(name);
        return 1 + deepest;
    }

    public static void main(String[] args) throws IOException {
        JavaCompiler compiler = ToolProvider.getSystemJavaCompiler();
        try (StandardJavaFileManager files = compiler.getStandardFileManager(null, null, null)) {
            JavacTask task = (JavacTask) compiler.getTask(null, files, null, List.of("-proc:none"), null,
                    files.getJavaFileObjects(SOURCE));
            CompilationUnitTree unit = task.parse().iterator().next();
            task.analyze();
            LanguageTest test = new LanguageTest(Trees.instance(task), unit);
            test.scan(unit, null);
            CHECK.due("rule 11: some twelve classes", test.classes > 1 && test.classes <= 12, true);
            CHECK.due("loops were looked at", test.loops > 20, true);
            int deepest = 0;
            for (String name : test.calls.keySet()) {
                deepest = Math.max(deepest, test.depth(name, new HashSet<>()));
            }
            System.out.println("deepest chain of own calls: " + deepest);
            CHECK.due("rule 11: calls go at most eight deep", deepest > 3 && deepest <= 8, true);
        }
        CHECK.end("LanguageTest");
    }
}
