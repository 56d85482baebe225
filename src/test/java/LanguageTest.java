import com.sun.source.tree.ArrayTypeTree;
import com.sun.source.tree.BlockTree;
import com.sun.source.tree.ClassTree;
import com.sun.source.tree.CompilationUnitTree;
import com.sun.source.tree.ForLoopTree;
import com.sun.source.tree.MethodInvocationTree;
import com.sun.source.tree.MethodTree;
import com.sun.source.tree.NewArrayTree;
import com.sun.source.tree.NewClassTree;
import com.sun.source.tree.Tree;
import com.sun.source.tree.VariableTree;
import com.sun.source.util.JavacTask;
import com.sun.source.util.TreePath;
import com.sun.source.util.TreePathScanner;
import com.sun.source.util.Trees;
import java.io.File;
import java.io.IOException;
import java.util.HashMap;
import java.util.HashSet;
import java.util.List;
import java.util.Map;
import java.util.Set;
import java.util.TreeSet;
import javax.lang.model.element.Element;
import javax.lang.model.element.ElementKind;
import javax.lang.model.element.Modifier;
import javax.lang.model.element.VariableElement;
import javax.tools.JavaCompiler;
import javax.tools.StandardJavaFileManager;
import javax.tools.ToolProvider;

/**
 * LANGUAGE.md, as far as the compiler's tree of the program tells. Often less is let pass than the rules allow: only
 * what the program needs. That no call throws (rule 7) and how deep recursion goes (rule 8) the tree does not tell;
 * RefusalTest and the bounds tests try the first.
 */
public final class LanguageTest extends TreePathScanner<Void, Void> {
    private static final Due D = new Due();
    private static final String PROGRAM = "src/main/java/ActSurgery.java";
    private static final Set<String> LIBRARY =
        Set.of("Integer.bitCount", "Math.max", "Math.min", "System.arraycopy", "Object.<init>");
    private static final Set<String> TYPES = Set.of("int", "boolean", "void");
    /** Rules 2, 3, 6, 9 and 10: what does not stand in the program at all. */
    private static final Set<Tree.Kind> BARRED = Set.of(Tree.Kind.LAMBDA_EXPRESSION, Tree.Kind.MEMBER_REFERENCE,
        Tree.Kind.THROW, Tree.Kind.TRY, Tree.Kind.CATCH, Tree.Kind.SYNCHRONIZED, Tree.Kind.ASSERT,
        Tree.Kind.SWITCH_EXPRESSION, Tree.Kind.TYPE_CAST, Tree.Kind.INSTANCE_OF, Tree.Kind.WHILE_LOOP,
        Tree.Kind.DO_WHILE_LOOP, Tree.Kind.IMPORT, Tree.Kind.PACKAGE, Tree.Kind.ANNOTATION,
        Tree.Kind.STRING_LITERAL, Tree.Kind.NULL_LITERAL, Tree.Kind.DOUBLE_LITERAL, Tree.Kind.FLOAT_LITERAL);

    private final Trees trees;
    private final CompilationUnitTree unit;
    private final Set<String> classes = new TreeSet<>();
    private final Map<Element, Set<Element>> calls = new HashMap<>();
    private final Map<Element, Integer> depths = new HashMap<>();
    private Element method;

    private LanguageTest(Trees trees, CompilationUnitTree unit) {
        this.trees = trees;
        this.unit = unit;
    }

    public static void main(String[] args) throws IOException {
        JavaCompiler compiler = ToolProvider.getSystemJavaCompiler();
        StandardJavaFileManager files = compiler.getStandardFileManager(null, null, null);
        JavacTask task = (JavacTask) compiler.getTask(null, files, null, List.of("-proc:none", "--release", "17"),
            null, files.getJavaFileObjects(new File(PROGRAM)));
        CompilationUnitTree unit = task.parse().iterator().next();
        task.analyze();
        D.due("classes outside the one of the document", unit.getTypeDecls().size(), 1);
        LanguageTest test = new LanguageTest(Trees.instance(task), unit);
        test.collectClasses(unit);
        test.scan(unit, null);
        test.depthsOfCalls();
        D.end();
    }

    private static void dueTrue(String rule, boolean is) {
        D.due(rule + " (1 or 0)", is ? 1 : 0, 1);
    }

    private void collectClasses(CompilationUnitTree all) {
        new TreePathScanner<Void, Void>() {
            @Override
            public Void visitClass(ClassTree node, Void none) {
                classes.add(node.getSimpleName().toString());
                return super.visitClass(node, none);
            }
        }.scan(all, null);
        dueTrue("rule 11: at most some twelve classes: " + classes, classes.size() <= 12);
    }

    private Element element() {
        return trees.getElement(getCurrentPath());
    }

    private static String nameOf(Element e) {
        return e.getEnclosingElement().getSimpleName() + "." + e.getSimpleName();
    }

    @Override
    public Void scan(Tree node, Void none) {
        if (node != null) {
            dueTrue("rules 2 to 10: no " + node.getKind() + " in " + node, !BARRED.contains(node.getKind()));
        }
        return super.scan(node, none);
    }

    @Override
    public Void visitClass(ClassTree node, Void none) {
        String name = node.getSimpleName().toString();
        Set<Modifier> bits = node.getModifiers().getFlags();
        Tree around = getCurrentPath().getParentPath().getLeaf();
        boolean inside = around.getKind() == Tree.Kind.CLASS;
        dueTrue("rule 2: " + name + " is no local or anonymous class",
            inside || around.getKind() == Tree.Kind.COMPILATION_UNIT);
        dueTrue("rules 1 and 2: " + name + " is static and not open to others",
            !inside || bits.contains(Modifier.STATIC) && !bits.contains(Modifier.PUBLIC)
            && !bits.contains(Modifier.PROTECTED));
        dueTrue("rule 12: no other class overrides methods of " + name, bits.contains(Modifier.FINAL));
        int fields = 0;
        for (Tree member : node.getMembers()) {
            dueTrue("rule 5: no initialiser block in " + name, !(member instanceof BlockTree));
            boolean field = member instanceof VariableTree;
            fields += field && !((VariableTree) member).getModifiers().getFlags().contains(Modifier.STATIC) ? 1 : 0;
        }
        dueTrue("rule 11: at most some twenty fields in " + name, fields <= 20);
        return super.visitClass(node, none);
    }

    @Override
    public Void visitVariable(VariableTree node, Void none) {
        dueType(node.getType());
        Element e = element();
        if (e.getKind() == ElementKind.FIELD && e.getModifiers().contains(Modifier.STATIC)) {
            Object value = ((VariableElement) e).getConstantValue();
            dueTrue("rule 5: static " + e + " is a constant of int",
                e.getModifiers().contains(Modifier.FINAL) && value instanceof Integer);
        }
        return super.visitVariable(node, none);
    }

    /** Rule 3: of the types that may be used the program needs int, boolean, rows of int and its own classes. */
    private void dueType(Tree type) {
        Tree one = type instanceof ArrayTypeTree ? ((ArrayTypeTree) type).getType() : type;
        boolean row = one != type;
        String name = one.toString();
        dueTrue("rule 3: the type " + type, row ? name.equals("int") : TYPES.contains(name) || classes.contains(name));
    }

    @Override
    public Void visitMethod(MethodTree node, Void none) {
        Element around = method;
        method = element();
        calls.putIfAbsent(method, new HashSet<>());
        if (node.getReturnType() != null) {
            dueType(node.getReturnType());
        }
        String name = nameOf(method);
        dueTrue("rule 11: at most seven parameters of " + name, node.getParameters().size() <= 7);
        dueTrue("rule 11: at most some sixty lines of " + name, linesOf(node) <= 60);
        dueTrue("rule 6: no throws of " + name, node.getThrows().isEmpty());
        if (!method.getModifiers().contains(Modifier.PUBLIC) && method.getKind() == ElementKind.METHOD) {
            dueTrue("rule 1: " + name + " does not bear the name of a public method", !isOfFace(node));
            dueTrue("rule 6: " + name + " is no method of every object",
                !Set.of("equals", "hashCode", "toString", "clone", "finalize").contains(node.getName().toString()));
        }
        super.visitMethod(node, none);
        method = around;
        return null;
    }

    private static boolean isOfFace(MethodTree node) {
        for (java.lang.reflect.Method m : ActSurgery.class.getMethods()) {
            if (m.getDeclaringClass() == ActSurgery.class && node.getName().contentEquals(m.getName())) {
                return true;
            }
        }
        return false;
    }

    private long linesOf(Tree node) {
        long first = trees.getSourcePositions().getStartPosition(unit, node);
        long last = trees.getSourcePositions().getEndPosition(unit, node);
        if (first < 0 || last < first) {
            return 0;
        }
        return unit.getLineMap().getLineNumber(last) - unit.getLineMap().getLineNumber(first) + 1;
    }

    @Override
    public Void visitForLoop(ForLoopTree node, Void none) {
        boolean counts = node.getInitializer().size() == 1 && node.getCondition() != null
            && node.getUpdate().size() == 1;
        dueTrue("rule 9: the end of a loop is seen from its own line: " + node.getCondition(), counts);
        return super.visitForLoop(node, none);
    }

    @Override
    public Void visitMethodInvocation(MethodInvocationTree node, Void none) {
        dueCall(element());
        return super.visitMethodInvocation(node, none);
    }

    private void dueCall(Element called) {
        String name = nameOf(called);
        boolean own = classes.contains(called.getEnclosingElement().getSimpleName().toString());
        dueTrue("rule 4: " + name + " is the program's own or of the library that may be used",
            own || LIBRARY.contains(name));
        if (own && method != null) {
            calls.get(method).add(called);
        }
    }

    @Override
    public Void visitNewClass(NewClassTree node, Void none) {
        dueTrue("rule 2: no anonymous class", node.getClassBody() == null);
        dueCall(element());
        dueMadeWithObject(getCurrentPath());
        return super.visitNewClass(node, none);
    }

    @Override
    public Void visitNewArray(NewArrayTree node, Void none) {
        dueTrue("rule 7: the length of a row is one constant",
            node.getDimensions().size() == 1 && node.getInitializers() == null
            && node.getDimensions().get(0).toString().matches("[A-Z_ *]+"));
        dueMadeWithObject(getCurrentPath());
        return super.visitNewArray(node, none);
    }

    /** Rule 12, and the one room that all calls of a run live in: no call makes anything. */
    private void dueMadeWithObject(TreePath path) {
        dueTrue("rule 12: made with the object: " + path.getLeaf(),
            method == null || method.getKind() == ElementKind.CONSTRUCTOR);
    }

    /** Rules 8 and 11: a method may call itself; all else goes at most eight deep and never round. */
    private void depthsOfCalls() {
        for (Element from : calls.keySet()) {
            D.due("rules 8 and 11: calls from " + nameOf(from) + " go " + depthOf(from, new HashSet<>())
                + " deep, of 8", depthOf(from, new HashSet<>()) <= 8 ? 1 : 0, 1);
            dueTrue("rule 8: " + nameOf(from) + " calls itself only if it is private",
                !calls.get(from).contains(from) || from.getModifiers().contains(Modifier.PRIVATE));
        }
    }

    private int depthOf(Element from, Set<Element> open) {
        if (depths.containsKey(from)) {
            return depths.get(from);
        }
        if (!open.add(from)) {
            return 1000;
        }
        int deepest = 0;
        for (Element to : calls.getOrDefault(from, Set.of())) {
            deepest = to.equals(from) ? deepest : Math.max(deepest, depthOf(to, open));
        }
        open.remove(from);
        depths.put(from, 1 + deepest);
        return 1 + deepest;
    }
}
