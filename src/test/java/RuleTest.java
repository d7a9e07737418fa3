import com.sun.source.tree.AssertTree;
import com.sun.source.tree.BinaryTree;
import com.sun.source.tree.ClassTree;
import com.sun.source.tree.CompilationUnitTree;
import com.sun.source.tree.ImportTree;
import com.sun.source.tree.LambdaExpressionTree;
import com.sun.source.tree.MemberReferenceTree;
import com.sun.source.tree.MethodInvocationTree;
import com.sun.source.tree.MethodTree;
import com.sun.source.tree.NewArrayTree;
import com.sun.source.tree.NewClassTree;
import com.sun.source.tree.SynchronizedTree;
import com.sun.source.tree.Tree;
import com.sun.source.tree.TryTree;
import com.sun.source.tree.TypeCastTree;
import com.sun.source.tree.VariableTree;
import com.sun.source.util.JavacTask;
import com.sun.source.util.TreePath;
import com.sun.source.util.TreePathScanner;
import com.sun.source.util.Trees;
import java.nio.file.Path;
import java.util.Arrays;
import java.util.HashMap;
import java.util.HashSet;
import java.util.LinkedHashSet;
import java.util.List;
import java.util.Map;
import java.util.Set;
import javax.lang.model.element.Element;
import javax.lang.model.element.ElementKind;
import javax.lang.model.element.Modifier;
import javax.lang.model.type.TypeMirror;
import javax.tools.JavaCompiler;
import javax.tools.JavaFileObject;
import javax.tools.StandardJavaFileManager;
import javax.tools.ToolProvider;

/** What can be seen of LANGUAGE.md in the code itself, by the compiler's own trees. */
public final class RuleTest extends TreePathScanner<Void, Void> {
    /** Of rule 4 what the class uses; add what it comes to use, if rule 4 has it. */
    private static final Set<String> LIBRARY = new HashSet<>(Arrays.asList("java.lang.String.length",
        "java.lang.String.charAt", "java.lang.String.indexOf", "java.lang.Integer.bitCount", "java.lang.Math.max",
        "java.lang.Math.min", "java.lang.Math.abs", "java.lang.Math.floorMod", "java.lang.Math.floorDiv"));
    private static final Set<String> STATIC_TYPES = new HashSet<>(Arrays.asList("int", "long", "boolean", "char",
        "java.lang.String", "int[]", "long[]", "char[]", "byte[]"));
    private static final Set<String> ENUM_FIELDS = new HashSet<>(Arrays.asList("int", "long", "boolean",
        "java.lang.String"));
    private static final Set<String> THROWN = new HashSet<>(Arrays.asList("java.util.NoSuchElementException"));
    private static final int MAX_LINES = 60;
    private static final int MAX_PARAMETERS = 7;
    private static final int MAX_FIELDS = 20;
    private static final int MAX_CALLS = 8;

    private final Trees trees;
    private final CompilationUnitTree unit;
    private final Map<Element, Set<Element>> calls = new HashMap<>();
    private Element method;

    private RuleTest(Trees trees, CompilationUnitTree unit) {
        this.trees = trees;
        this.unit = unit;
    }

    public static void main(String[] args) throws Exception {
        JavaCompiler compiler = ToolProvider.getSystemJavaCompiler();
        try (StandardJavaFileManager files = compiler.getStandardFileManager(null, null, null)) {
            Iterable<? extends JavaFileObject> sources =
                files.getJavaFileObjects(Path.of("src", "main", "java", "HalfShop.java"));
            JavacTask task = (JavacTask) compiler.getTask(null, files, null, List.of("--release", "17"), null, sources);
            CompilationUnitTree unit = task.parse().iterator().next();
            task.analyze();
            RuleTest test = new RuleTest(Trees.instance(task), unit);
            test.scan(unit, null);
            test.callsAreShallow();
        }
        Check.end();
    }

    private void rule(int rule, Tree where, boolean kept) {
        long start = trees.getSourcePositions().getStartPosition(unit, where);
        long line = start < 0 ? 0 : unit.getLineMap().getLineNumber(start);
        Check.due("rule " + rule + ", line " + line + ": " + where.getKind(), kept, true);
    }

    private Element elementHere() {
        return trees.getElement(getCurrentPath());
    }

    private TypeMirror typeOf(Tree tree) {
        return trees.getTypeMirror(new TreePath(getCurrentPath(), tree));
    }

    @Override
    public Void visitImport(ImportTree tree, Void none) {
        String name = tree.getQualifiedIdentifier().toString();
        rule(4, tree, !tree.isStatic() && name.equals("java.util.NoSuchElementException"));
        return super.visitImport(tree, none);
    }

    @Override
    public Void visitClass(ClassTree tree, Void none) {
        Set<Modifier> modifiers = tree.getModifiers().getFlags();
        boolean outer = tree.getSimpleName().contentEquals("HalfShop");
        rule(1, tree, outer || modifiers.contains(Modifier.PRIVATE));
        int fields = 0;
        for (Tree member : tree.getMembers()) {
            rule(5, member, member.getKind() != Tree.Kind.BLOCK);
            boolean field = member instanceof VariableTree;
            fields += field && !((VariableTree) member).getModifiers().getFlags().contains(Modifier.STATIC) ? 1 : 0;
        }
        rule(11, tree, fields <= MAX_FIELDS);
        return super.visitClass(tree, none);
    }

    @Override
    public Void visitVariable(VariableTree tree, Void none) {
        Element e = elementHere();
        if (e != null && e.getKind() == ElementKind.FIELD) {
            String type = e.asType().toString();
            boolean ofEnum = e.getEnclosingElement().getKind() == ElementKind.ENUM;
            if (e.getModifiers().contains(Modifier.STATIC)) {
                boolean values = ofEnum && tree.getInitializer().toString().equals("values()");
                rule(5, tree, e.getModifiers().contains(Modifier.FINAL) && (values || STATIC_TYPES.contains(type)));
            } else if (ofEnum) {
                rule(2, tree, ENUM_FIELDS.contains(type));
            }
        }
        return super.visitVariable(tree, none);
    }

    @Override
    public Void visitMethod(MethodTree tree, Void none) {
        Element before = method;
        method = elementHere();
        calls.put(method, new LinkedHashSet<>());
        rule(11, tree, tree.getParameters().size() <= MAX_PARAMETERS);
        long start = trees.getSourcePositions().getStartPosition(unit, tree);
        long end = trees.getSourcePositions().getEndPosition(unit, tree);
        if (start >= 0 && end >= 0) {
            long lines = unit.getLineMap().getLineNumber(end) - unit.getLineMap().getLineNumber(start) + 1;
            rule(11, tree, lines <= MAX_LINES);
        }
        super.visitMethod(tree, none);
        method = before;
        return null;
    }

    @Override
    public Void visitMethodInvocation(MethodInvocationTree tree, Void none) {
        Element called = elementHere();
        String owner = called.getEnclosingElement().toString();
        if (owner.startsWith("HalfShop")) {
            if (method != null) {
                calls.get(method).add(called);
            }
        } else if (called.getKind() != ElementKind.CONSTRUCTOR) {
            rule(4, tree, LIBRARY.contains(owner + "." + called.getSimpleName()));
        }
        return super.visitMethodInvocation(tree, none);
    }

    /** No call makes an object: rows are made in constructors, and only an exception elsewhere. */
    @Override
    public Void visitNewClass(NewClassTree tree, Void none) {
        String type = typeOf(tree.getIdentifier()).toString();
        boolean thrown = getCurrentPath().getParentPath().getLeaf().getKind() == Tree.Kind.THROW;
        if (thrown) {
            rule(6, tree, THROWN.contains(type) && tree.getArguments().size() <= 1);
        } else {
            rule(12, tree, type.startsWith("HalfShop.") && isMaking());
        }
        return super.visitNewClass(tree, none);
    }

    @Override
    public Void visitNewArray(NewArrayTree tree, Void none) {
        rule(12, tree, isMaking());
        return super.visitNewArray(tree, none);
    }

    private boolean isMaking() {
        return method == null || method.getKind() == ElementKind.CONSTRUCTOR;
    }

    @Override
    public Void visitBinary(BinaryTree tree, Void none) {
        boolean text = typeOf(tree.getLeftOperand()).toString().equals("java.lang.String")
            || typeOf(tree.getRightOperand()).toString().equals("java.lang.String");
        rule(10, tree, !text);
        if (tree.getKind() == Tree.Kind.DIVIDE || tree.getKind() == Tree.Kind.REMAINDER) {
            rule(7, tree, isSafeDivisor(tree));
        }
        return super.visitBinary(tree, none);
    }

    /** A written number, a constant, or one that the same statement or method has tested: drawn, power. */
    private boolean isSafeDivisor(BinaryTree tree) {
        String by = tree.getRightOperand().toString();
        String in = method == null ? "" : method.getSimpleName().toString();
        return by.matches("[1-9][0-9]*L?") || by.equals("below") && in.equals("drawn")
            || by.equals("all") && in.equals("power");
    }

    @Override
    public Void visitTypeCast(TypeCastTree tree, Void none) {
        rule(6, tree, typeOf(tree.getType()).getKind().isPrimitive());
        return super.visitTypeCast(tree, none);
    }

    @Override
    public Void visitTry(TryTree tree, Void none) {
        rule(6, tree, false);
        return super.visitTry(tree, none);
    }

    @Override
    public Void visitLambdaExpression(LambdaExpressionTree tree, Void none) {
        rule(2, tree, false);
        return super.visitLambdaExpression(tree, none);
    }

    @Override
    public Void visitMemberReference(MemberReferenceTree tree, Void none) {
        rule(2, tree, false);
        return super.visitMemberReference(tree, none);
    }

    @Override
    public Void visitSynchronized(SynchronizedTree tree, Void none) {
        rule(6, tree, false);
        return super.visitSynchronized(tree, none);
    }

    @Override
    public Void visitAssert(AssertTree tree, Void none) {
        rule(6, tree, false);
        return super.visitAssert(tree, none);
    }

    /** Rule 11: the longest chain of calls, those of one recursion counted once. */
    private void callsAreShallow() {
        Map<Element, Set<Element>> reached = new HashMap<>();
        for (Element e : calls.keySet()) {
            reached.put(e, reachedFrom(e));
        }
        for (Element e : calls.keySet()) {
            int deep = depthOf(e, reached);
            Check.due("rule 11: " + e + " goes " + deep + " deep", deep <= MAX_CALLS, true);
        }
    }

    private Set<Element> reachedFrom(Element start) {
        Set<Element> found = new LinkedHashSet<>(calls.get(start));
        boolean more = true;
        while (more) {
            more = false;
            for (Element e : List.copyOf(found)) {
                more |= found.addAll(calls.getOrDefault(e, Set.of()));
            }
        }
        return found;
    }

    private int depthOf(Element e, Map<Element, Set<Element>> reached) {
        int deepest = 0;
        Set<Element> ring = new LinkedHashSet<>(Set.of(e));
        for (Element other : reached.getOrDefault(e, Set.of())) {
            if (reached.getOrDefault(other, Set.of()).contains(e)) {
                ring.add(other);
            }
        }
        for (Element one : ring) {
            for (Element called : calls.getOrDefault(one, Set.of())) {
                if (!ring.contains(called)) {
                    deepest = Math.max(deepest, depthOf(called, reached));
                }
            }
        }
        return deepest + 1;
    }
}
