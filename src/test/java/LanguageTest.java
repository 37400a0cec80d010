import com.sun.source.tree.*;
import com.sun.source.util.JavacTask;
import com.sun.source.util.SourcePositions;
import com.sun.source.util.TreePath;
import com.sun.source.util.TreePathScanner;
import com.sun.source.util.TreeScanner;
import com.sun.source.util.Trees;
import java.io.File;
import java.io.IOException;
import java.util.ArrayList;
import java.util.HashSet;
import java.util.List;
import java.util.Map;
import java.util.Set;
import java.util.TreeMap;
import java.util.TreeSet;
import javax.lang.model.element.Element;
import javax.lang.model.element.ElementKind;
import javax.lang.model.element.Modifier;
import javax.lang.model.type.TypeKind;
import javax.tools.JavaCompiler;
import javax.tools.StandardJavaFileManager;
import javax.tools.ToolProvider;

/**
 * What of LANGUAGE.md can be read off the source by javac's own eyes; each finding begins with the rule's number.
 * It is narrower than the rules where the class needs less: no library class but Math, Integer, System, no object made
 * outside a constructor, no recursion at all.
 */
public final class LanguageTest extends TreePathScanner<Void, Void> {
    private static final String SOURCE = "src/main/java/SaltSaints.java";
    private static final int MOST_PARAMETERS = 7, MOST_LINES = 60, MOST_CALLS = 8, MOST_CLASSES = 12, MOST_FIELDS = 20;
    private static final Set<String> LIBRARY = Set.of("Math.min", "Math.max", "Math.abs", "Integer.bitCount",
        "System.arraycopy", "Long.MIN_VALUE");
    private static final Set<Tree.Kind> FORBIDDEN = Set.of(Tree.Kind.LAMBDA_EXPRESSION, Tree.Kind.MEMBER_REFERENCE,
        Tree.Kind.THROW, Tree.Kind.TRY, Tree.Kind.CATCH, Tree.Kind.SYNCHRONIZED, Tree.Kind.ASSERT, Tree.Kind.INSTANCE_OF,
        Tree.Kind.SWITCH_EXPRESSION, Tree.Kind.IMPORT, Tree.Kind.PACKAGE, Tree.Kind.ANNOTATION, Tree.Kind.DOUBLE_LITERAL,
        Tree.Kind.FLOAT_LITERAL, Tree.Kind.RECORD, Tree.Kind.ENUM, Tree.Kind.INTERFACE, Tree.Kind.WHILE_LOOP, Tree.Kind.DO_WHILE_LOOP);

    private static final Set<Tree.Kind> CHANGING = Set.of(Tree.Kind.PREFIX_INCREMENT, Tree.Kind.PREFIX_DECREMENT,
        Tree.Kind.POSTFIX_INCREMENT, Tree.Kind.POSTFIX_DECREMENT);

    private final Trees trees;
    private final SourcePositions positions;
    private final CompilationUnitTree unit;
    private final Map<String, Set<String>> calls = new TreeMap<>();
    private final Set<String> publicNames = new HashSet<>();
    private final Set<String> privateNames = new HashSet<>();
    private int classes = 0;
    private int findings = 0;

    private LanguageTest(JavacTask task, CompilationUnitTree unit) {
        this.trees = Trees.instance(task);
        this.positions = trees.getSourcePositions();
        this.unit = unit;
    }

    public static void main(String[] args) throws IOException {
        JavaCompiler compiler = ToolProvider.getSystemJavaCompiler();
        try (StandardJavaFileManager files = compiler.getStandardFileManager(null, null, null)) {
            JavacTask task = (JavacTask) compiler.getTask(null, files, null, List.of("-proc:none"), null,
                files.getJavaFileObjects(new File(SOURCE)));
            CompilationUnitTree unit = task.parse().iterator().next();
            task.analyze();
            LanguageTest test = new LanguageTest(task, unit);
            test.scan(unit, null);
            test.lookAtWhole();
            System.out.println(test.findings == 0 ? "the source keeps to LANGUAGE.md" : test.findings + " findings");
            if (test.findings != 0) {
                System.exit(1);
            }
        }
    }

    private void find(Tree at, String what) {
        findings++;
        System.out.println(SOURCE + ":" + line(positions.getStartPosition(unit, at)) + ": rule " + what);
    }

    private long line(long position) {
        return unit.getLineMap().getLineNumber(position);
    }

    private void lookAtWhole() {
        if (unit.getTypeDecls().size() != 1) {
            find(unit, "1: one class in the file");
        }
        if (classes > MOST_CLASSES) {
            find(unit, "11: " + classes + " classes");
        }
        for (String name : privateNames) {
            if (publicNames.contains(name)) {
                find(unit, "1: a private method bears the public name " + name);
            }
        }
        for (String start : calls.keySet()) {
            depth(start, new ArrayList<>());
        }
    }

    /** How deep calls go from a method on; a method that comes again on the way is recursion. */
    private void depth(String method, List<String> open) {
        if (open.contains(method)) {
            find(unit, "8: recursion: " + open + " " + method);
            return;
        }
        open.add(method);
        if (open.size() == MOST_CALLS + 1) {
            find(unit, "11: calls too deep: " + open);
        } else {
            for (String called : calls.getOrDefault(method, Set.of())) {
                depth(called, open);
            }
        }
        open.remove(open.size() - 1);
    }

    @Override
    public Void scan(Tree tree, Void nothing) {
        if (tree != null && FORBIDDEN.contains(tree.getKind())) {
            find(tree, "2, 6 or 9: " + tree.getKind());
        }
        return super.scan(tree, nothing);
    }

    @Override
    public Void visitClass(ClassTree tree, Void nothing) {
        classes++;
        Set<Modifier> modifiers = tree.getModifiers().getFlags();
        boolean outer = getCurrentPath().getParentPath().getLeaf() == unit;
        if (outer && !modifiers.equals(Set.of(Modifier.PUBLIC, Modifier.FINAL))) {
            find(tree, "1: the class is public and final");
        }
        if (!outer && !modifiers.contains(Modifier.STATIC)) {
            find(tree, "2: a class inside is static");
        }
        int fields = 0;
        for (Tree member : tree.getMembers()) {
            if (member instanceof VariableTree field && !field.getModifiers().getFlags().contains(Modifier.STATIC)) {
                fields++;
            }
            if (member instanceof BlockTree) {
                find(member, "5: an initialiser block");
            }
        }
        if (fields > MOST_FIELDS) {
            find(tree, "11: " + fields + " fields");
        }
        return super.visitClass(tree, nothing);
    }

    @Override
    public Void visitVariable(VariableTree tree, Void nothing) {
        Element element = trees.getElement(getCurrentPath());
        Set<Modifier> modifiers = tree.getModifiers().getFlags();
        if (element != null && element.getKind() == ElementKind.FIELD) {
            boolean constant = modifiers.contains(Modifier.STATIC);
            if (constant && !(modifiers.contains(Modifier.FINAL) && element.asType().getKind().isPrimitive())) {
                find(tree, "5: a static field is a constant");
            }
            if (!modifiers.contains(Modifier.PRIVATE) && !(constant && modifiers.contains(Modifier.PUBLIC))) {
                find(tree, "1: a field is private");
            }
        }
        TypeKind kind = trees.getTypeMirror(new TreePath(getCurrentPath(), tree.getType())).getKind();
        if (kind == TypeKind.DOUBLE || kind == TypeKind.FLOAT) {
            find(tree, "3: no doubles are needed here");
        }
        return super.visitVariable(tree, nothing);
    }

    @Override
    public Void visitMethod(MethodTree tree, Void nothing) {
        long first = line(positions.getStartPosition(unit, tree));
        long last = line(positions.getEndPosition(unit, tree));
        if (last - first + 1 > MOST_LINES) {
            find(tree, "11: " + (last - first + 1) + " lines");
        }
        if (tree.getParameters().size() > MOST_PARAMETERS) {
            find(tree, "11: " + tree.getParameters().size() + " parameters");
        }
        Set<Modifier> modifiers = tree.getModifiers().getFlags();
        if (modifiers.contains(Modifier.PUBLIC) && tree.getReturnType() != null) {
            publicNames.add(tree.getName().toString());
        } else if (modifiers.contains(Modifier.PRIVATE) && tree.getReturnType() != null) {
            privateNames.add(tree.getName().toString());
        } else if (!modifiers.contains(Modifier.PUBLIC) && !modifiers.contains(Modifier.PRIVATE)) {
            find(tree, "1: neither public nor private");
        }
        calls.putIfAbsent(nameOf(trees.getElement(getCurrentPath())), new TreeSet<>());
        return super.visitMethod(tree, nothing);
    }

    @Override
    public Void visitMethodInvocation(MethodInvocationTree tree, Void nothing) {
        Element called = trees.getElement(new TreePath(getCurrentPath(), tree.getMethodSelect()));
        TreePath method = enclosingMethod();
        if (called != null && method != null && called.getKind() == ElementKind.METHOD && isOwn(called)) {
            calls.computeIfAbsent(nameOf(trees.getElement(method)), name -> new TreeSet<>()).add(nameOf(called));
        }
        if (called != null && called.getSimpleName().contentEquals("clone")) {
            madeInConstructor(tree);
        }
        return super.visitMethodInvocation(tree, nothing);
    }

    private static boolean isOwn(Element called) {
        return called.getEnclosingElement().toString().startsWith("SaltSaints");
    }

    private static String nameOf(Element method) {
        return method.getEnclosingElement() + "." + method;
    }

    private TreePath enclosingMethod() {
        for (TreePath path = getCurrentPath(); path != null; path = path.getParentPath()) {
            if (path.getLeaf() instanceof MethodTree) {
                return path;
            }
        }
        return null;
    }

    @Override
    public Void visitMemberSelect(MemberSelectTree tree, Void nothing) {
        Element of = trees.getElement(new TreePath(getCurrentPath(), tree.getExpression()));
        boolean foreign = of != null && of.getKind().isClass() && !of.toString().startsWith("SaltSaints");
        if (foreign && !LIBRARY.contains(tree.toString())) {
            find(tree, "4: " + tree);
        }
        return super.visitMemberSelect(tree, nothing);
    }

    @Override
    public Void visitIdentifier(IdentifierTree tree, Void nothing) {
        Element element = trees.getElement(getCurrentPath());
        if (element != null && element.getKind().isClass() && !element.toString().startsWith("SaltSaints")
            && !Set.of("Math", "Integer", "System", "Long").contains(element.getSimpleName().toString())) {
            find(tree, "3: the type " + tree);
        }
        return super.visitIdentifier(tree, nothing);
    }

    @Override
    public Void visitNewClass(NewClassTree tree, Void nothing) {
        madeInConstructor(tree);
        return super.visitNewClass(tree, nothing);
    }

    @Override
    public Void visitNewArray(NewArrayTree tree, Void nothing) {
        madeInConstructor(tree);
        return super.visitNewArray(tree, nothing);
    }

    /** Rule 12, narrowed: no call makes an object, so all calls of a run fit into its room. */
    private void madeInConstructor(Tree tree) {
        TreePath method = enclosingMethod();
        if (method == null || trees.getElement(method).getKind() != ElementKind.CONSTRUCTOR) {
            find(tree, "12: made outside a constructor: " + tree);
        }
    }

    @Override
    public Void visitForLoop(ForLoopTree tree, Void nothing) {
        String counter = counterOf(tree);
        if (counter == null || !isBound(counter, tree.getCondition()) || !goesUp(counter, tree) || isSet(counter, tree.getStatement())) {
            find(tree, "9: no counter that goes up to a bound");
        }
        return super.visitForLoop(tree, nothing);
    }

    private static String counterOf(ForLoopTree tree) {
        boolean one = tree.getInitializer().size() == 1 && tree.getInitializer().get(0) instanceof VariableTree;
        return one ? ((VariableTree) tree.getInitializer().get(0)).getName().toString() : null;
    }

    /** The loop ends at the bound, perhaps earlier. */
    private static boolean isBound(String counter, ExpressionTree condition) {
        if (!(condition instanceof BinaryTree both)) {
            return false;
        }
        if (both.getKind() == Tree.Kind.CONDITIONAL_AND) {
            return isBound(counter, both.getLeftOperand()) || isBound(counter, both.getRightOperand());
        }
        boolean below = both.getKind() == Tree.Kind.LESS_THAN || both.getKind() == Tree.Kind.LESS_THAN_EQUAL;
        return below && both.getLeftOperand().toString().equals(counter);
    }

    private static boolean goesUp(String counter, ForLoopTree tree) {
        return tree.getUpdate().size() == 1 && tree.getUpdate().get(0).getExpression().toString().equals(counter + "++");
    }

    private static boolean isSet(String counter, StatementTree body) {
        boolean[] found = new boolean[1];
        new TreeScanner<Void, Void>() {
            @Override
            public Void scan(Tree tree, Void nothing) {
                ExpressionTree set = tree instanceof AssignmentTree plain ? plain.getVariable()
                    : tree instanceof CompoundAssignmentTree more ? more.getVariable()
                    : tree instanceof UnaryTree one && CHANGING.contains(one.getKind()) ? one.getExpression() : null;
                found[0] |= set != null && set.toString().equals(counter);
                return super.scan(tree, nothing);
            }
        }.scan(body, null);
        return found[0];
    }
}
