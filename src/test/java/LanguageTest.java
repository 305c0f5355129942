import com.sun.source.tree.BinaryTree;
import com.sun.source.tree.ClassTree;
import com.sun.source.tree.CompilationUnitTree;
import com.sun.source.tree.DoWhileLoopTree;
import com.sun.source.tree.ExpressionTree;
import com.sun.source.tree.ForLoopTree;
import com.sun.source.tree.LiteralTree;
import com.sun.source.tree.MethodInvocationTree;
import com.sun.source.tree.MethodTree;
import com.sun.source.tree.NewArrayTree;
import com.sun.source.tree.NewClassTree;
import com.sun.source.tree.Tree;
import com.sun.source.tree.TypeCastTree;
import com.sun.source.tree.VariableTree;
import com.sun.source.tree.WhileLoopTree;
import com.sun.source.util.JavacTask;
import com.sun.source.util.TreePath;
import com.sun.source.util.TreePathScanner;
import com.sun.source.util.TreeScanner;
import com.sun.source.util.Trees;
import java.io.IOException;
import java.nio.file.Files;
import java.nio.file.Path;
import java.util.EnumSet;
import java.util.HashMap;
import java.util.HashSet;
import java.util.LinkedHashMap;
import java.util.LinkedHashSet;
import java.util.List;
import java.util.Map;
import java.util.Set;
import javax.lang.model.element.Element;
import javax.lang.model.element.ElementKind;
import javax.lang.model.element.Modifier;
import javax.lang.model.element.TypeElement;
import javax.lang.model.type.ArrayType;
import javax.lang.model.type.TypeMirror;
import javax.tools.JavaCompiler;
import javax.tools.StandardJavaFileManager;
import javax.tools.ToolProvider;

/**
 * The rules of ../shared/LANGUAGE.md that can be seen in the file as javac reads it. Of what the rules allow, this
 * allows what the class has need of: numbers, rows of them, classes of its own; a class that needs more, adds it here.
 */
public final class LanguageTest extends TreePathScanner<Void, Void> {
    private static final Path FILE = Path.of("src/main/java/TwoTreesAlike.java");

    // rules 2, 6: what never stands there
    private static final Set<Tree.Kind> NEVER = EnumSet.of(Tree.Kind.THROW, Tree.Kind.TRY, Tree.Kind.CATCH,
            Tree.Kind.SYNCHRONIZED, Tree.Kind.ASSERT, Tree.Kind.LAMBDA_EXPRESSION, Tree.Kind.MEMBER_REFERENCE,
            Tree.Kind.INSTANCE_OF, Tree.Kind.IMPORT, Tree.Kind.PACKAGE, Tree.Kind.ANNOTATION,
            Tree.Kind.STRING_LITERAL, Tree.Kind.DOUBLE_LITERAL, Tree.Kind.FLOAT_LITERAL, Tree.Kind.INTERFACE,
            Tree.Kind.ENUM, Tree.Kind.RECORD, Tree.Kind.SWITCH_EXPRESSION, Tree.Kind.YIELD);

    // rule 4
    private static final Set<String> LIBRARY = Set.of("java.lang.Math.max", "java.lang.System.arraycopy");

    private static final Set<Tree.Kind> ORDERS = EnumSet.of(Tree.Kind.LESS_THAN, Tree.Kind.LESS_THAN_EQUAL,
            Tree.Kind.GREATER_THAN, Tree.Kind.GREATER_THAN_EQUAL);

    private static final int MOST_PARAMETERS = 7, MOST_LINES = 60, MOST_DEEP = 8, MOST_CLASSES = 12, MOST_FIELDS = 20;

    private final Trees trees;
    private final CompilationUnitTree unit;
    private final Map<Element, Set<Element>> calls = new LinkedHashMap<>();
    private int classes = 0;

    private LanguageTest(Trees trees, CompilationUnitTree unit) {
        this.trees = trees;
        this.unit = unit;
    }

    public static void main(String[] args) throws IOException {
        Check.holds("signs are below 128", Files.readString(FILE).chars().allMatch(c -> c < 128));
        JavaCompiler javac = ToolProvider.getSystemJavaCompiler();
        try (StandardJavaFileManager files = javac.getStandardFileManager(null, null, null)) {
            List<String> options = List.of("-proc:none", "--release", "17");
            JavacTask task = (JavacTask) javac.getTask(null, files, null, options, null, files.getJavaFileObjects(FILE));
            CompilationUnitTree unit = task.parse().iterator().next();
            task.analyze();
            LanguageTest test = new LanguageTest(Trees.instance(task), unit);
            test.scan(unit, null);
            Check.holds("twelve classes at most: " + test.classes, test.classes <= MOST_CLASSES);
            Check.holds("it was read", test.classes > 1 && test.calls.size() > 29);
            test.callsEnd();
        }
        Check.end("LanguageTest");
    }

    private void holds(String rule, Tree at, boolean isSo) {
        long line = unit.getLineMap().getLineNumber(trees.getSourcePositions().getStartPosition(unit, at));
        Check.holds(rule + ", line " + line, isSo);
    }

    @Override
    public Void scan(Tree tree, Void none) {
        if (tree != null) {
            holds(tree.getKind() + " stands there", tree, !NEVER.contains(tree.getKind()));
        }
        return super.scan(tree, none);
    }

    @Override
    public Void visitClass(ClassTree tree, Void none) {
        classes++;
        int fields = 0;
        for (Tree member : tree.getMembers()) {
            if (member instanceof VariableTree field && !field.getModifiers().getFlags().contains(Modifier.STATIC)) {
                fields++;
            }
            holds("a static block", member, member.getKind() != Tree.Kind.BLOCK);
        }
        holds("few fields", tree, fields <= MOST_FIELDS);
        Element parent = trees.getElement(getCurrentPath()).getEnclosingElement();
        holds("a class in a method, or without a name", tree, parent instanceof TypeElement
                || parent.getKind() == ElementKind.PACKAGE);
        return super.visitClass(tree, none);
    }

    @Override
    public Void visitMethod(MethodTree tree, Void none) {
        long from = trees.getSourcePositions().getStartPosition(unit, tree);
        long to = trees.getSourcePositions().getEndPosition(unit, tree);
        long lines = unit.getLineMap().getLineNumber(to) - unit.getLineMap().getLineNumber(from) + 1;
        holds(tree.getName() + " is short", tree, lines <= MOST_LINES);
        holds(tree.getName() + " takes few", tree, tree.getParameters().size() <= MOST_PARAMETERS);
        calls.computeIfAbsent(trees.getElement(getCurrentPath()), e -> new LinkedHashSet<>());
        return super.visitMethod(tree, none);
    }

    @Override
    public Void visitVariable(VariableTree tree, Void none) {
        Element is = trees.getElement(getCurrentPath());
        holds("of a type that may be: " + is.asType(), tree, mayBe(is.asType(), 0));
        if (is.getModifiers().contains(Modifier.STATIC)) {
            boolean isConstant = is.getModifiers().contains(Modifier.FINAL) && is.asType().getKind().isPrimitive();
            holds("a static one is a constant", tree, isConstant);
        }
        return super.visitVariable(tree, none);
    }

    /** Rule 3: numbers, truth, own classes; rows of these; rows of two dimensions of numbers. */
    private boolean mayBe(TypeMirror type, int dimensions) {
        if (type instanceof ArrayType row) {
            return mayBe(row.getComponentType(), dimensions + 1);
        }
        if (type.getKind().isPrimitive()) {
            return dimensions <= 2;
        }
        return dimensions <= 1 && isOwn(type.toString());
    }

    private static boolean isOwn(String type) {
        return type.equals("TwoTreesAlike") || type.startsWith("TwoTreesAlike.");
    }

    @Override
    public Void visitMethodInvocation(MethodInvocationTree tree, Void none) {
        Element called = trees.getElement(new TreePath(getCurrentPath(), tree.getMethodSelect()));
        String of = called.getEnclosingElement().toString();
        boolean isOfAll = of.equals("java.lang.Object") && called.getKind() == ElementKind.CONSTRUCTOR;
        if (isOwn(of)) {
            calls.computeIfAbsent(caller(), e -> new LinkedHashSet<>()).add(called);
        } else {
            String name = of + "." + called.getSimpleName();
            holds(name + " is of the library", tree, isOfAll || LIBRARY.contains(name));
        }
        return super.visitMethodInvocation(tree, none);
    }

    /** All rows and objects are made with the object: no call makes any (so the room that a run has is enough). */
    @Override
    public Void visitNewClass(NewClassTree tree, Void none) {
        Element made = trees.getElement(getCurrentPath());
        holds("made with the object", tree, caller() == null || caller().getKind() != ElementKind.METHOD);
        holds("of a class of its own", tree, isOwn(made.getEnclosingElement().toString()));
        if (caller() != null) {
            calls.computeIfAbsent(caller(), e -> new LinkedHashSet<>()).add(made);
        }
        return super.visitNewClass(tree, none);
    }

    @Override
    public Void visitNewArray(NewArrayTree tree, Void none) {
        holds("made with the object", tree, caller() == null || caller().getKind() != ElementKind.METHOD);
        return super.visitNewArray(tree, none);
    }

    /** The method or constructor that stands around; null, if a field's own line does. */
    private Element caller() {
        for (TreePath at = getCurrentPath(); at != null; at = at.getParentPath()) {
            if (at.getLeaf() instanceof MethodTree) {
                return trees.getElement(at);
            }
        }
        return null;
    }

    @Override
    public Void visitTypeCast(TypeCastTree tree, Void none) {
        holds("a cast of a number", tree, trees.getTypeMirror(getCurrentPath()).getKind().isPrimitive());
        return super.visitTypeCast(tree, none);
    }

    @Override
    public Void visitForLoop(ForLoopTree tree, Void none) {
        hasAnEnd(tree, tree.getCondition());
        holds("a counter", tree, !tree.getInitializer().isEmpty() && !tree.getUpdate().isEmpty());
        return super.visitForLoop(tree, none);
    }

    @Override
    public Void visitWhileLoop(WhileLoopTree tree, Void none) {
        hasAnEnd(tree, tree.getCondition());
        return super.visitWhileLoop(tree, none);
    }

    @Override
    public Void visitDoWhileLoop(DoWhileLoopTree tree, Void none) {
        hasAnEnd(tree, tree.getCondition());
        return super.visitDoWhileLoop(tree, none);
    }

    /** Rule 9, as far as it can be seen: a bound stands in the loop's condition, and each part of it must hold. */
    private void hasAnEnd(Tree loop, ExpressionTree condition) {
        boolean[] seen = {false, true};
        new TreeScanner<Void, Void>() {
            @Override
            public Void visitBinary(BinaryTree tree, Void none) {
                seen[0] |= ORDERS.contains(tree.getKind());
                return super.visitBinary(tree, none);
            }

            @Override
            public Void visitLiteral(LiteralTree tree, Void none) {
                seen[1] &= tree.getKind() != Tree.Kind.BOOLEAN_LITERAL;
                return super.visitLiteral(tree, none);
            }
        }.scan(condition, null);
        holds("a loop with a bound", loop, condition != null && seen[0] && seen[1]);
    }

    /** Rules 8, 11: none calls itself, by others either; calls go eight deep at most. */
    private void callsEnd() {
        Map<Element, Integer> depths = new HashMap<>();
        int most = 0;
        for (Element method : calls.keySet()) {
            most = Math.max(most, depth(method, depths, new HashSet<>()));
        }
        Check.holds("calls go " + most + " deep", most <= MOST_DEEP);
        Check.holds("calls are followed at all", most > 3);
    }

    private int depth(Element method, Map<Element, Integer> depths, Set<Element> open) {
        if (depths.containsKey(method)) {
            return depths.get(method);
        }
        boolean isNew = open.add(method);
        Check.holds(method + " calls itself", isNew);
        if (!isNew) {
            return 1;
        }
        int below = 0;
        for (Element called : calls.getOrDefault(method, Set.of())) {
            below = Math.max(below, depth(called, depths, open));
        }
        open.remove(method);
        depths.put(method, below + 1);
        return below + 1;
    }
}
