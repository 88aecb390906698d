import com.sun.source.tree.ClassTree;
import com.sun.source.tree.CompilationUnitTree;
import com.sun.source.tree.ForLoopTree;
import com.sun.source.tree.ImportTree;
import com.sun.source.tree.MethodInvocationTree;
import com.sun.source.tree.MethodTree;
import com.sun.source.tree.NewArrayTree;
import com.sun.source.tree.NewClassTree;
import com.sun.source.tree.Tree;
import com.sun.source.tree.VariableTree;
import com.sun.source.util.JavacTask;
import com.sun.source.util.TreePathScanner;
import com.sun.source.util.Trees;
import java.nio.file.Path;
import java.util.EnumSet;
import java.util.HashMap;
import java.util.HashSet;
import java.util.Map;
import java.util.Set;
import javax.lang.model.element.Element;
import javax.lang.model.element.Modifier;
import javax.lang.model.element.VariableElement;
import javax.tools.JavaCompiler;
import javax.tools.StandardJavaFileManager;
import javax.tools.ToolProvider;

/** The rules of LANGUAGE.md that the program's syntax tree shows; some are kept more tightly than they ask. */
public final class LanguageTest extends TreePathScanner<Void, Void> {
    private static final Path PROGRAM = Path.of("src/main/java/BlockMesh.java");
    private static final int MOST_CLASSES = 12;
    private static final int MOST_FIELDS = 20;
    private static final int MOST_PARAMETERS = 7;
    private static final int MOST_LINES = 60;
    private static final int MOST_DEPTH = 8;

    /** Rule 4: what the program needs of it. */
    private static final Set<String> LIBRARY = Set.of(
            "java.lang.System.arraycopy", "java.util.Arrays.fill", "java.lang.Math.max", "java.lang.Long.bitCount",
            "java.lang.Object.<init>");
    /** Rule 3: beside the program's own classes. */
    private static final Set<String> TYPES = Set.of("int", "long", "boolean", "int[]", "long[]", "void");
    /** Rules 2, 6 and 10: the program does without these, also where they are allowed. */
    private static final Set<Tree.Kind> LEFT_OUT = EnumSet.of(
            Tree.Kind.LAMBDA_EXPRESSION, Tree.Kind.MEMBER_REFERENCE, Tree.Kind.THROW, Tree.Kind.TRY, Tree.Kind.ASSERT,
            Tree.Kind.SYNCHRONIZED, Tree.Kind.INSTANCE_OF, Tree.Kind.TYPE_CAST, Tree.Kind.STRING_LITERAL,
            Tree.Kind.NULL_LITERAL, Tree.Kind.DIVIDE_ASSIGNMENT, Tree.Kind.REMAINDER_ASSIGNMENT);

    private final Check check = new Check();
    private final Trees trees;
    private final CompilationUnitTree unit;
    private final Set<String> ownClasses = new HashSet<>();
    private final Set<String> faceNames = new HashSet<>();
    private final Map<Element, Set<Element>> calls = new HashMap<>();
    private MethodTree method;

    private LanguageTest(Trees trees, CompilationUnitTree unit) {
        this.trees = trees;
        this.unit = unit;
    }

    public static void main(String[] args) throws Exception {
        JavaCompiler compiler = ToolProvider.getSystemJavaCompiler();
        try (StandardJavaFileManager files = compiler.getStandardFileManager(null, null, null)) {
            JavacTask task = (JavacTask) compiler.getTask(null, files, null, null, null,
                    files.getJavaFileObjects(PROGRAM));
            CompilationUnitTree unit = task.parse().iterator().next();
            task.analyze();
            new LanguageTest(Trees.instance(task), unit).run();
        }
    }

    private void run() {
        check.part("LANGUAGE.md");
        check.due("a package line", unit.getPackageName() != null, false);
        check.due("classes outside the one", unit.getTypeDecls().size(), 1);
        new NamesOfProgram().scan(unit, null);
        check.due("rule 11: at most twelve classes", ownClasses.size() <= MOST_CLASSES, true);
        scan(unit, null);
        for (Element caller : calls.keySet()) {
            int depth = depthOf(caller, new HashSet<>());
            check.due("rule 11: " + caller + " goes at most eight deep", depth <= MOST_DEPTH, true);
        }
        check.end();
    }

    /** What must be known before the rest is looked at. */
    private final class NamesOfProgram extends TreePathScanner<Void, Void> {
        @Override
        public Void visitClass(ClassTree tree, Void nothing) {
            ownClasses.add(tree.getSimpleName().toString());
            return super.visitClass(tree, nothing);
        }

        @Override
        public Void visitMethod(MethodTree tree, Void nothing) {
            if (isOf(tree, Modifier.PUBLIC)) {
                faceNames.add(tree.getName().toString());
            }
            return super.visitMethod(tree, nothing);
        }
    }

    @Override
    public Void scan(Tree tree, Void nothing) {
        if (tree != null && LEFT_OUT.contains(tree.getKind())) {
            told(tree, "rules 2, 6, 10: " + tree.getKind(), false);
        }
        return super.scan(tree, nothing);
    }

    @Override
    public Void visitImport(ImportTree tree, Void nothing) {
        told(tree, "rule 4: import", tree.toString().trim().equals("import java.util.Arrays;"));
        return super.visitImport(tree, nothing);
    }

    @Override
    public Void visitClass(ClassTree tree, Void nothing) {
        boolean outer = getCurrentPath().getParentPath().getLeaf() == unit;
        Set<Modifier> modifiers = tree.getModifiers().getFlags();
        told(tree, "rules 1, 2: a plain class", tree.getKind() == Tree.Kind.CLASS && method == null);
        told(tree, "rules 1, 2: public and final, or private and static", outer
                ? modifiers.equals(Set.of(Modifier.PUBLIC, Modifier.FINAL))
                : modifiers.containsAll(Set.of(Modifier.PRIVATE, Modifier.STATIC)));
        int fields = 0;
        for (Tree member : tree.getMembers()) {
            told(member, "rule 5: no block of its own", member.getKind() != Tree.Kind.BLOCK);
            fields += member instanceof VariableTree field && isKept(field) ? 1 : 0;
        }
        told(tree, "rule 11: at most twenty fields", fields <= MOST_FIELDS);
        return super.visitClass(tree, nothing);
    }

    private boolean isKept(VariableTree field) {
        Set<Modifier> modifiers = field.getModifiers().getFlags();
        told(field, "rule 1: a private field", modifiers.contains(Modifier.PRIVATE));
        if (modifiers.contains(Modifier.STATIC)) {
            told(field, "rule 5: a constant", modifiers.contains(Modifier.FINAL)
                    && ((VariableElement) elementOf(field)).getConstantValue() != null);
            return false;
        }
        return true;
    }

    @Override
    public Void visitVariable(VariableTree tree, Void nothing) {
        told(tree, "rule 3: type " + tree.getType(), isKnownType(tree.getType()));
        return super.visitVariable(tree, nothing);
    }

    @Override
    public Void visitMethod(MethodTree tree, Void nothing) {
        boolean constructor = tree.getReturnType() == null;
        boolean face = isOf(tree, Modifier.PUBLIC);
        told(tree, "rule 3: type " + tree.getReturnType(), constructor || isKnownType(tree.getReturnType()));
        told(tree, "rule 1: the name of a call of the face",
                face || constructor || !faceNames.contains(tree.getName().toString()));
        told(tree, "rule 11: at most seven parameters", tree.getParameters().size() <= MOST_PARAMETERS);
        told(tree, "rule 11: at most sixty lines", lastLine(tree) - line(tree) < MOST_LINES);
        calls.put(elementOf(tree), new HashSet<>());
        method = tree;
        super.visitMethod(tree, nothing);
        method = null;
        return null;
    }

    @Override
    public Void visitMethodInvocation(MethodInvocationTree tree, Void nothing) {
        Element called = elementOf(tree);
        String owner = called.getEnclosingElement().toString();
        String name = owner + "." + called.getSimpleName();
        boolean own = owner.equals("BlockMesh") || owner.startsWith("BlockMesh.");
        told(tree, "rule 4: call of " + name, own || LIBRARY.contains(name));
        noteCall(called);
        return super.visitMethodInvocation(tree, nothing);
    }

    @Override
    public Void visitForLoop(ForLoopTree tree, Void nothing) {
        told(tree, "rule 9: a loop with a bound", tree.getCondition() != null && !tree.getUpdate().isEmpty());
        return super.visitForLoop(tree, nothing);
    }

    @Override
    public Void visitNewClass(NewClassTree tree, Void nothing) {
        told(tree, "rule 12: only a constructor makes objects", isMaking());
        noteCall(elementOf(tree));
        return super.visitNewClass(tree, nothing);
    }

    @Override
    public Void visitNewArray(NewArrayTree tree, Void nothing) {
        told(tree, "rule 12: only a constructor makes arrays", isMaking());
        return super.visitNewArray(tree, nothing);
    }

    private void noteCall(Element called) {
        if (method != null) {
            calls.get(elementOf(method)).add(called);
        }
    }

    /** Whether this stands in a constructor or in a field's first value. */
    private boolean isMaking() {
        return method == null || method.getReturnType() == null;
    }

    private boolean isKnownType(Tree type) {
        return TYPES.contains(type.toString()) || ownClasses.contains(type.toString());
    }

    /** How many calls stand open at once from this one on; rule 8: none of them comes again. */
    private int depthOf(Element caller, Set<Element> open) {
        if (!open.add(caller)) {
            check.due("rule 8: " + caller + " calls itself", true, false);
            return 0;
        }
        int deepest = 0;
        for (Element called : calls.getOrDefault(caller, Set.of())) {
            deepest = Math.max(deepest, depthOf(called, open));
        }
        open.remove(caller);
        return deepest + 1;
    }

    private Element elementOf(Tree tree) {
        return trees.getElement(trees.getPath(unit, tree));
    }

    private static boolean isOf(MethodTree tree, Modifier modifier) {
        return tree.getModifiers().getFlags().contains(modifier);
    }

    private long line(Tree tree) {
        return unit.getLineMap().getLineNumber(Math.max(0, trees.getSourcePositions().getStartPosition(unit, tree)));
    }

    private long lastLine(Tree tree) {
        return unit.getLineMap().getLineNumber(Math.max(0, trees.getSourcePositions().getEndPosition(unit, tree)));
    }

    private void told(Tree tree, String rule, boolean kept) {
        check.due("line " + line(tree) + ", " + rule, kept, true);
    }
}
