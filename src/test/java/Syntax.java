import com.sun.source.tree.AssignmentTree;
import com.sun.source.tree.BinaryTree;
import com.sun.source.tree.ClassTree;
import com.sun.source.tree.CompilationUnitTree;
import com.sun.source.tree.CompoundAssignmentTree;
import com.sun.source.tree.DoWhileLoopTree;
import com.sun.source.tree.ForLoopTree;
import com.sun.source.tree.IdentifierTree;
import com.sun.source.tree.LiteralTree;
import com.sun.source.tree.MemberSelectTree;
import com.sun.source.tree.MethodInvocationTree;
import com.sun.source.tree.MethodTree;
import com.sun.source.tree.NewArrayTree;
import com.sun.source.tree.NewClassTree;
import com.sun.source.tree.Tree;
import com.sun.source.tree.TypeCastTree;
import com.sun.source.tree.UnaryTree;
import com.sun.source.tree.VariableTree;
import com.sun.source.tree.WhileLoopTree;
import com.sun.source.util.JavacTask;
import com.sun.source.util.TreePath;
import com.sun.source.util.TreePathScanner;
import com.sun.source.util.TreeScanner;
import com.sun.source.util.Trees;
import java.nio.file.Path;
import java.util.ArrayList;
import java.util.EnumSet;
import java.util.List;
import java.util.Map;
import java.util.Set;
import java.util.TreeMap;
import java.util.TreeSet;
import java.util.regex.Matcher;
import java.util.regex.Pattern;
import javax.lang.model.element.Element;
import javax.lang.model.element.ExecutableElement;
import javax.lang.model.element.Modifier;
import javax.lang.model.element.TypeElement;
import javax.lang.model.type.TypeMirror;
import javax.tools.JavaCompiler;
import javax.tools.StandardJavaFileManager;
import javax.tools.ToolProvider;

/**
 * The program's syntax tree as javac reads it, with what in it is outside LANGUAGE.md. It is stricter
 * than the rules where the program needs less: a rule that the program grows into may be let in here.
 */
final class Syntax extends TreePathScanner<Void, Void> {
    private static final Set<Tree.Kind> FORBIDDEN = EnumSet.of(Tree.Kind.THROW, Tree.Kind.TRY, Tree.Kind.SYNCHRONIZED,
        Tree.Kind.ASSERT, Tree.Kind.LAMBDA_EXPRESSION, Tree.Kind.MEMBER_REFERENCE, Tree.Kind.IMPORT, Tree.Kind.PACKAGE,
        Tree.Kind.INSTANCE_OF, Tree.Kind.STRING_LITERAL, Tree.Kind.ANNOTATION, Tree.Kind.PARAMETERIZED_TYPE);
    private static final Set<String> TYPES = Set.of("int", "long", "byte", "boolean", "void", "int[]");
    /** All of the library that the program calls; rule 4 allows more. */
    private static final Set<String> LIBRARY = Set.of("Integer.bitCount(int)", "Math.min(int,int)",
        "System.arraycopy(java.lang.Object,int,java.lang.Object,int,int)");

    /** A divisor that is no number written out must be known here, with the reason that it is never 0. */
    private static final Map<String, String> DIVISORS = Map.of(
        "rows[r].size", "behind size < 1",
        "town.now.size", "behind size < 2",
        "d", "above 1",
        "commonPart(town.sum(town.mistaken), all)", "1 at least",
        "LOT_MODULUS", "a constant");

    final List<String> faults = new ArrayList<>();
    /** Which methods each method calls, the library's too. */
    final Map<String, Set<String>> calls = new TreeMap<>();
    final Map<String, Integer> fields = new TreeMap<>();
    int methods = 0;
    int loops = 0;

    private final Trees trees;
    private final CompilationUnitTree unit;

    private Syntax(Trees trees, CompilationUnitTree unit) {
        this.trees = trees;
        this.unit = unit;
    }

    static Syntax of(Path file) throws Exception {
        JavaCompiler compiler = ToolProvider.getSystemJavaCompiler();
        try (StandardJavaFileManager files = compiler.getStandardFileManager(null, null, null)) {
            JavacTask task = (JavacTask) compiler.getTask(null, files, null, List.of("-proc:none"), null, files.getJavaFileObjects(file));
            CompilationUnitTree unit = task.parse().iterator().next();
            task.analyze();
            Syntax syntax = new Syntax(Trees.instance(task), unit);
            syntax.scan(unit, null);
            return syntax;
        }
    }

    private void blame(int rule, Tree where, String what) {
        long line = unit.getLineMap().getLineNumber(trees.getSourcePositions().getStartPosition(unit, where));
        faults.add("rule " + rule + ", line " + line + ": " + what);
    }

    private Element element(Tree tree) {
        return trees.getElement(new TreePath(getCurrentPath(), tree));
    }

    private static boolean isOwn(Element element) {
        Element outer = element;
        while (outer.getEnclosingElement() != null && outer.getEnclosingElement().getKind().isClass()) {
            outer = outer.getEnclosingElement();
        }
        return outer.getSimpleName().contentEquals("WornNames") || outer.getEnclosingElement() != null
            && outer.getEnclosingElement().getSimpleName().contentEquals("WornNames");
    }

    private static String nameOf(Element method) {
        return method.getEnclosingElement().getSimpleName() + "." + method;
    }

    private static boolean isAllowed(TypeMirror type) {
        String name = type.toString();
        return TYPES.contains(name) || name.matches("WornNames(\\.\\w+)?(\\[\\])?");
    }

    /** The method, or the class whose fields are made, that the tree stands in. */
    private Tree home() {
        TreePath path = getCurrentPath();
        while (path != null && path.getLeaf().getKind() != Tree.Kind.METHOD && !(path.getLeaf() instanceof ClassTree)) {
            path = path.getParentPath();
        }
        return path == null ? unit : path.getLeaf();
    }

    private Set<String> callsOfHome() {
        TreePath path = getCurrentPath();
        while (path.getLeaf() != home()) path = path.getParentPath();
        Element at = trees.getElement(path);
        String name = at instanceof TypeElement ? at.getSimpleName() + "." + at.getSimpleName() + "()" : nameOf(at);
        return calls.computeIfAbsent(name, n -> new TreeSet<>());
    }

    @Override
    public Void scan(Tree tree, Void v) {
        if (tree != null && FORBIDDEN.contains(tree.getKind())) blame(6, tree, "forbidden: " + tree.getKind());
        return super.scan(tree, v);
    }

    @Override
    public Void visitClass(ClassTree tree, Void v) {
        Element at = trees.getElement(getCurrentPath());
        boolean outer = at.getSimpleName().contentEquals("WornNames");
        if (tree.getKind() != Tree.Kind.CLASS) blame(2, tree, "another kind of class: " + tree.getSimpleName());
        if (!outer && !at.getModifiers().contains(Modifier.STATIC)) blame(2, tree, "not static: " + tree.getSimpleName());
        if (!outer && getCurrentPath().getParentPath().getLeaf().getKind() != Tree.Kind.CLASS) blame(2, tree, "a class in a method");
        if (!outer && at.getModifiers().contains(Modifier.PUBLIC)) blame(1, tree, "public: " + tree.getSimpleName());
        for (Tree member : tree.getMembers()) {
            if (member.getKind() == Tree.Kind.BLOCK) blame(5, member, "a block of initialising");
        }
        fields.put(tree.getSimpleName().toString(), 0);
        return super.visitClass(tree, v);
    }

    @Override
    public Void visitVariable(VariableTree tree, Void v) {
        Element at = trees.getElement(getCurrentPath());
        if (!isAllowed(at.asType())) blame(3, tree, "a " + at.asType() + ": " + tree.getName());
        if (at.getKind().isField()) {
            Set<Modifier> is = tree.getModifiers().getFlags();
            boolean plain = at.asType().getKind().isPrimitive();
            if (is.contains(Modifier.STATIC) && !(is.contains(Modifier.FINAL) && plain)) blame(5, tree, "static state: " + tree.getName());
            if (!is.contains(Modifier.STATIC)) fields.merge(at.getEnclosingElement().getSimpleName().toString(), 1, Integer::sum);
        }
        return super.visitVariable(tree, v);
    }

    @Override
    public Void visitMethod(MethodTree tree, Void v) {
        methods++;
        ExecutableElement at = (ExecutableElement) trees.getElement(getCurrentPath());
        if (!isAllowed(at.getReturnType())) blame(3, tree, "answers a " + at.getReturnType() + ": " + at);
        if (at.getModifiers().contains(Modifier.SYNCHRONIZED)) blame(6, tree, "synchronized: " + at);
        if (at.getParameters().size() > 7) blame(11, tree, "more than seven parameters: " + at);
        long lines = unit.getLineMap().getLineNumber(trees.getSourcePositions().getEndPosition(unit, tree))
            - unit.getLineMap().getLineNumber(trees.getSourcePositions().getStartPosition(unit, tree)) + 1;
        if (lines > 60) blame(11, tree, lines + " lines: " + at);
        return super.visitMethod(tree, v);
    }

    @Override
    public Void visitMethodInvocation(MethodInvocationTree tree, Void v) {
        Element called = element(tree.getMethodSelect());
        if (called == null) {
            blame(4, tree, "a call of nobody knows what: " + tree);
        } else if (isOwn(called)) {
            callsOfHome().add(nameOf(called));
        } else if (!tree.getMethodSelect().toString().equals("super")) {
            callsOfHome().add(nameOf(called));
            if (!LIBRARY.contains(nameOf(called))) blame(4, tree, "of the library: " + nameOf(called));
        }
        return super.visitMethodInvocation(tree, v);
    }

    @Override
    public Void visitNewClass(NewClassTree tree, Void v) {
        Element made = trees.getElement(getCurrentPath());
        if (tree.getClassBody() != null) blame(2, tree, "a class without a name");
        if (made == null || !isOwn(made)) blame(3, tree, "new: " + tree);
        else callsOfHome().add(nameOf(made));
        lookAtMaking(tree);
        return super.visitNewClass(tree, v);
    }

    @Override
    public Void visitNewArray(NewArrayTree tree, Void v) {
        lookAtMaking(tree);
        return super.visitNewArray(tree, v);
    }

    /** All calls of a run share one room, so only constructors make anything. */
    private void lookAtMaking(Tree tree) {
        Tree home = home();
        if (home instanceof MethodTree && !((MethodTree) home).getName().contentEquals("<init>")) blame(12, tree, "made by a call: " + tree);
    }

    @Override
    public Void visitMemberSelect(MemberSelectTree tree, Void v) {
        Element at = trees.getElement(getCurrentPath());
        boolean length = tree.getIdentifier().contentEquals("length");
        if (at != null && at.getKind().isField() && !length && !isOwn(at)) blame(4, tree, "a field of the library: " + tree);
        return super.visitMemberSelect(tree, v);
    }

    @Override
    public Void visitTypeCast(TypeCastTree tree, Void v) {
        if (!trees.getTypeMirror(new TreePath(getCurrentPath(), tree.getType())).getKind().isPrimitive()) blame(6, tree, "a cast: " + tree);
        return super.visitTypeCast(tree, v);
    }

    @Override
    public Void visitForLoop(ForLoopTree tree, Void v) {
        loops++;
        if (tree.getCondition() == null || tree.getUpdate().size() != 1) blame(9, tree, "a for without an end or a step");
        else if (!counts(tree, tree.getInitializer().toString(), tree.getUpdate().get(0).toString())) blame(9, tree, "a for that doesn't count: " + tree.getUpdate());
        return super.visitForLoop(tree, v);
    }

    /** The counter is begun, asked for its bound, stepped by one, and set by nothing else in the loop. */
    private boolean counts(ForLoopTree loop, String begin, String step) {
        String counter = step.replaceAll("\\W", "");
        boolean stepped = step.startsWith(counter + "++") || step.startsWith(counter + "--");
        String sign = step.contains("++") ? "<=?" : ">=?";
        boolean bound = loop.getCondition().toString().matches("(.*\\W)?" + counter + " " + sign + " .*");
        boolean[] set = {false};
        new TreeScanner<Void, Void>() {
            @Override
            public Void visitAssignment(AssignmentTree tree, Void v) {
                set[0] |= tree.getVariable().toString().equals(counter);
                return super.visitAssignment(tree, v);
            }

            @Override
            public Void visitCompoundAssignment(CompoundAssignmentTree tree, Void v) {
                set[0] |= tree.getVariable().toString().equals(counter);
                return super.visitCompoundAssignment(tree, v);
            }

            @Override
            public Void visitUnary(UnaryTree tree, Void v) {
                boolean steps = tree.getKind().name().contains("CREMENT");
                set[0] |= steps && tree.getExpression().toString().equals(counter);
                return super.visitUnary(tree, v);
            }
        }.scan(loop.getStatement(), null);
        return stepped && bound && !loop.getCondition().toString().contains("||") && begin.contains("int " + counter + " =") && !set[0];
    }

    @Override
    public Void visitWhileLoop(WhileLoopTree tree, Void v) {
        loops++;
        String condition = tree.getCondition().toString();
        String body = tree.getStatement().toString();
        Matcher m = Pattern.compile("^\\((\\w+) ([<>]) \\w+ && [^|]*\\)$").matcher(condition);
        boolean seen = m.find() && body.contains(m.group(1) + (m.group(2).equals("<") ? "++;" : "--;"));
        if (!seen || body.contains("continue")) blame(9, tree, "a while whose end can't be seen: " + condition);
        return super.visitWhileLoop(tree, v);
    }

    @Override
    public Void visitDoWhileLoop(DoWhileLoopTree tree, Void v) {
        blame(9, tree, "a do, of which the program has none");
        return super.visitDoWhileLoop(tree, v);
    }

    @Override
    public Void visitBinary(BinaryTree tree, Void v) {
        boolean divides = tree.getKind() == Tree.Kind.DIVIDE || tree.getKind() == Tree.Kind.REMAINDER;
        String by = tree.getRightOperand().toString();
        boolean written = tree.getRightOperand() instanceof LiteralTree && !by.equals("0");
        if (divides && !written && !DIVISORS.containsKey(by)) blame(7, tree, "divided by " + by);
        return super.visitBinary(tree, v);
    }

    @Override
    public Void visitCompoundAssignment(CompoundAssignmentTree tree, Void v) {
        if (tree.getKind().name().matches("DIVIDE.*|REMAINDER.*")) blame(7, tree, "divided: " + tree);
        return super.visitCompoundAssignment(tree, v);
    }

    @Override
    public Void visitIdentifier(IdentifierTree tree, Void v) {
        Element at = trees.getElement(getCurrentPath());
        if (at instanceof TypeElement && !isOwn(at) && !Set.of("Integer", "Math", "System").contains(tree.toString())) blame(3, tree, "a type: " + tree);
        return super.visitIdentifier(tree, v);
    }

    /** How many calls stand open at once below this one, itself too, each recursion taken once. */
    int depth(String method, Set<String> open) {
        int deepest = 0;
        Set<String> here = new TreeSet<>(open);
        here.add(method);
        for (String next : calls.getOrDefault(method, Set.of())) {
            if (here.contains(next)) {
                if (!next.equals(method)) faults.add("rule 8: " + method + " calls " + next + ", which calls it");
            } else {
                deepest = Math.max(deepest, depth(next, here));
            }
        }
        return deepest + 1;
    }

    /** Methods that call themselves. */
    Set<String> recursive() {
        Set<String> some = new TreeSet<>();
        for (Map.Entry<String, Set<String>> entry : calls.entrySet()) {
            if (entry.getValue().contains(entry.getKey())) some.add(entry.getKey());
        }
        return some;
    }
}
