import com.sun.source.tree.ArrayAccessTree;
import com.sun.source.tree.BinaryTree;
import com.sun.source.tree.BlockTree;
import com.sun.source.tree.ClassTree;
import com.sun.source.tree.CompilationUnitTree;
import com.sun.source.tree.CompoundAssignmentTree;
import com.sun.source.tree.ConditionalExpressionTree;
import com.sun.source.tree.ExpressionTree;
import com.sun.source.tree.ForLoopTree;
import com.sun.source.tree.IdentifierTree;
import com.sun.source.tree.LiteralTree;
import com.sun.source.tree.MemberSelectTree;
import com.sun.source.tree.MethodInvocationTree;
import com.sun.source.tree.MethodTree;
import com.sun.source.tree.NewArrayTree;
import com.sun.source.tree.NewClassTree;
import com.sun.source.tree.Tree;
import com.sun.source.tree.TypeCastTree;
import com.sun.source.tree.VariableTree;
import com.sun.source.tree.WhileLoopTree;
import com.sun.source.util.JavacTask;
import com.sun.source.util.TreePath;
import com.sun.source.util.TreePathScanner;
import com.sun.source.util.Trees;
import java.io.IOException;
import java.util.ArrayDeque;
import java.util.Deque;
import java.util.List;
import java.util.Map;
import java.util.TreeMap;
import java.util.TreeSet;
import javax.lang.model.element.Element;
import javax.lang.model.element.ElementKind;
import javax.lang.model.element.ExecutableElement;
import javax.lang.model.element.Modifier;
import javax.lang.model.element.TypeElement;
import javax.lang.model.element.VariableElement;
import javax.lang.model.type.TypeKind;
import javax.lang.model.type.TypeMirror;
import javax.tools.JavaCompiler;
import javax.tools.StandardJavaFileManager;
import javax.tools.ToolProvider;

/** What of LANGUAGE.md the program's syntax tree shows; each check has the rule's number ahead. */
final class ProgramTree extends TreePathScanner<Void, Void> {
    /** All that the program may call outside itself; LANGUAGE.md lists more, but more isn't needed. */
    private static final TreeSet<String> LIBRARY = new TreeSet<>(List.of("java.util.Arrays.fill(int[],int)",
            "java.util.Arrays.copyOf(int[],int)", "java.lang.System.arraycopy(java.lang.Object,int,java.lang.Object,int,int)",
            "java.lang.Math.max(int,int)", "java.lang.Math.min(int,int)", "java.lang.Math.max(long,long)",
            "java.lang.Math.min(long,long)", "java.lang.String.length()", "java.lang.String.charAt(int)"));
    private static final int MOST_DEEP = 8;

    private final Trees trees;
    private final CompilationUnitTree unit;
    private final Map<String, TreeSet<String>> calls = new TreeMap<>();
    private final TreeSet<String> openToAll = new TreeSet<>();
    private final TreeSet<String> onRings = new TreeSet<>();
    private String inside = "";
    private int loops = 0;
    private int classes = 0;
    private int divisions = 0;

    private ProgramTree(Trees trees, CompilationUnitTree unit) {
        this.trees = trees;
        this.unit = unit;
    }

    static void check(String path) throws IOException {
        JavaCompiler compiler = ToolProvider.getSystemJavaCompiler();
        try (StandardJavaFileManager files = compiler.getStandardFileManager(null, null, null)) {
            JavacTask task = (JavacTask) compiler.getTask(null, files, null, List.of("-proc:none"), null,
                    files.getJavaFileObjects(path));
            CompilationUnitTree unit = task.parse().iterator().next();
            task.analyze();
            ProgramTree program = new ProgramTree(Trees.instance(task), unit);
            program.scan(unit, null);
            program.whole();
        }
    }

    private void rule(int number, String what, boolean holds) {
        Check.yes("rule " + number + ": " + what, holds);
    }

    private void never(int number, Tree tree) {
        rule(number, "never " + tree.getKind() + ": " + tree, false);
    }

    private long line(long place) {
        return unit.getLineMap().getLineNumber(place);
    }

    // ---- classes, fields and methods ----

    @Override
    public Void visitClass(ClassTree tree, Void none) {
        Tree parent = getCurrentPath().getParentPath().getLeaf();
        String name = tree.getSimpleName().toString();
        rule(2, "a class of the kind that is used: " + name, tree.getKind() == Tree.Kind.CLASS);
        rule(12, "no other class overrides what " + name + " has", tree.getModifiers().getFlags().contains(Modifier.FINAL));
        if (parent != unit) {
            rule(2, "inside the one class: " + name, parent instanceof ClassTree
                    && getCurrentPath().getParentPath().getParentPath().getLeaf() == unit);
            rule(2, "static: " + name, tree.getModifiers().getFlags().contains(Modifier.STATIC));
            rule(1, "private: " + name, tree.getModifiers().getFlags().contains(Modifier.PRIVATE));
        }
        classes++;
        int fields = 0;
        for (Tree member : tree.getMembers()) {
            rule(5, "no block in " + name, !(member instanceof BlockTree));
            if (member instanceof VariableTree) fields += isConstant((VariableTree) member) ? 0 : 1;
        }
        rule(11, "fields of " + name, fields <= 20);
        return super.visitClass(tree, none);
    }

    private boolean isConstant(VariableTree field) {
        boolean isStatic = field.getModifiers().getFlags().contains(Modifier.STATIC);
        if (isStatic) {
            VariableElement element = (VariableElement) trees.getElement(new TreePath(getCurrentPath(), field));
            rule(5, "a constant: " + field, element.getConstantValue() != null);
        }
        return isStatic;
    }

    @Override
    public Void visitMethod(MethodTree tree, Void none) {
        ExecutableElement element = (ExecutableElement) trees.getElement(getCurrentPath());
        inside = nameOf(element);
        calls.putIfAbsent(inside, new TreeSet<>());
        if (element.getModifiers().contains(Modifier.PUBLIC)) openToAll.add(inside);
        rule(6, "no throws: " + inside, tree.getThrows().isEmpty());
        rule(11, "parameters of " + inside, tree.getParameters().size() <= 7);
        long first = trees.getSourcePositions().getStartPosition(unit, tree);
        long last = trees.getSourcePositions().getEndPosition(unit, tree);
        rule(11, "lines of " + inside, first < 0 || last < 0 || line(last) - line(first) < 60);
        if (element.getKind() != ElementKind.CONSTRUCTOR) allowed(inside, element.getReturnType());
        super.visitMethod(tree, none);
        inside = "";
        return null;
    }

    @Override
    public Void visitVariable(VariableTree tree, Void none) {
        allowed(tree.toString(), trees.getElement(getCurrentPath()).asType());
        return super.visitVariable(tree, none);
    }

    private void allowed(String what, TypeMirror type) {
        String name = type.toString();
        boolean fits = name.matches("void|int|long|boolean|char|int\\[\\]|java\\.lang\\.String|BlackRoad(\\.\\w+)?");
        rule(3, name + " of " + what, fits);
    }

    // ---- what is called and made ----

    private static String nameOf(ExecutableElement element) {
        return ((TypeElement) element.getEnclosingElement()).getQualifiedName() + "." + element;
    }

    private static boolean isOwn(Element element) {
        return element.getEnclosingElement().toString().startsWith("BlackRoad");
    }

    private void called(Element element) {
        String name = nameOf((ExecutableElement) element);
        if (name.startsWith("java.lang.Object.Object()")) return;
        calls.computeIfAbsent(inside, key -> new TreeSet<>()).add(name);
        rule(4, name + " may be called", isOwn(element) || LIBRARY.contains(name));
    }

    @Override
    public Void visitMethodInvocation(MethodInvocationTree tree, Void none) {
        called(trees.getElement(new TreePath(getCurrentPath(), tree.getMethodSelect())));
        return super.visitMethodInvocation(tree, none);
    }

    @Override
    public Void visitNewClass(NewClassTree tree, Void none) {
        called(trees.getElement(getCurrentPath()));
        rule(2, "no body at " + tree, tree.getClassBody() == null);
        rule(12, "made outside of loops: " + tree, loops == 0);
        return super.visitNewClass(tree, none);
    }

    @Override
    public Void visitNewArray(NewArrayTree tree, Void none) {
        rule(12, "made outside of loops: " + tree, loops == 0);
        for (ExpressionTree length : tree.getDimensions()) {
            rule(7, "a length that isn't below 0: " + tree, length.toString().matches("[A-Z_0-9 *+()]+|.*[A-Z_]+|Math\\.max\\(0, \\w+\\)"));
        }
        return super.visitNewArray(tree, none);
    }

    @Override
    public Void visitMemberSelect(MemberSelectTree tree, Void none) {
        Element element = trees.getElement(getCurrentPath());
        if (element instanceof VariableElement) {
            boolean isLength = tree.getIdentifier().contentEquals("length")
                    && trees.getTypeMirror(new TreePath(getCurrentPath(), tree.getExpression())).getKind() == TypeKind.ARRAY;
            rule(4, tree + " is the program's own", isLength || isOwn(element));
        }
        return super.visitMemberSelect(tree, none);
    }

    // ---- loops ----

    @Override
    public Void visitForLoop(ForLoopTree tree, Void none) {
        String condition = String.valueOf(tree.getCondition());
        String step = tree.getUpdate().toString().replace(";", "");
        rule(9, "a counter against a bound: " + condition + " with " + step, tree.getInitializer().size() == 1
                && tree.getUpdate().size() == 1 && condition.matches("(?s).*(<|<=|>|>=) .*") && counts(condition, step));
        loops++;
        super.visitForLoop(tree, none);
        loops--;
        return null;
    }

    private static boolean counts(String condition, String step) {
        String counter = step.replaceAll("\\W.*", "");
        String bounded = condition.replaceAll("[()]", "");
        return step.endsWith("++") ? bounded.matches("(?s)(.* )?" + counter + " <=? .*")
                : step.matches("\\w+(--| -= \\d+)") && bounded.matches("(?s)(.* )?" + counter + " >=? .*");
    }

    @Override
    public Void visitWhileLoop(WhileLoopTree tree, Void none) {
        String condition = tree.getCondition().toString().replaceAll("[()]", "");
        String counter = condition.replaceAll("(?s)^(\\w+) < .*", "$1");
        rule(9, "a counter against a bound: " + condition, condition.startsWith(counter + " < ")
                && tree.getStatement().toString().contains(counter + "++"));
        loops++;
        super.visitWhileLoop(tree, none);
        loops--;
        return null;
    }

    // ---- what is never thrown ----

    @Override
    public Void visitArrayAccess(ArrayAccessTree tree, Void none) {
        rule(7, "an index is looked at in at() and set(): " + tree,
                inside.equals("BlackRoad.at(int[],int)") || inside.equals("BlackRoad.set(int[],int,int)"));
        return super.visitArrayAccess(tree, none);
    }

    @Override
    public Void visitBinary(BinaryTree tree, Void none) {
        Tree.Kind kind = tree.getKind();
        if (kind == Tree.Kind.DIVIDE || kind == Tree.Kind.REMAINDER) {
            divisions++;
            rule(7, "a divisor that isn't 0: " + tree, isNever0(tree.getRightOperand()));
        }
        if (kind == Tree.Kind.PLUS || kind == Tree.Kind.EQUAL_TO || kind == Tree.Kind.NOT_EQUAL_TO) {
            rule(kind == Tree.Kind.PLUS ? 10 : 6, "between numbers: " + tree,
                    isPlain(tree.getLeftOperand()) && isPlain(tree.getRightOperand()));
        }
        return super.visitBinary(tree, none);
    }

    private boolean isPlain(ExpressionTree part) {
        return trees.getTypeMirror(new TreePath(getCurrentPath(), part)).getKind().isPrimitive();
    }

    /** A number, a constant, at least 1 by Math.max, or a name that is looked at in the condition around it. */
    private boolean isNever0(ExpressionTree divisor) {
        if (divisor instanceof LiteralTree) return !((LiteralTree) divisor).getValue().equals(0);
        if (divisor.toString().startsWith("Math.max(1, ")) return true;
        Element element = trees.getElement(new TreePath(getCurrentPath(), divisor));
        if (!(divisor instanceof IdentifierTree) || !(element instanceof VariableElement)) return false;
        Object constant = ((VariableElement) element).getConstantValue();
        if (constant != null) return !constant.equals(0);
        for (TreePath path = getCurrentPath(); path != null; path = path.getParentPath()) {
            Tree tree = path.getLeaf();
            if (tree instanceof ConditionalExpressionTree && ((ConditionalExpressionTree) tree).getCondition().toString()
                    .equals("(" + divisor + " == 0)")) return true;
            if (tree instanceof ConditionalExpressionTree && ((ConditionalExpressionTree) tree).getCondition().toString()
                    .equals(divisor + " == 0")) return true;
        }
        Tree told = trees.getTree(element);
        return told instanceof VariableTree && String.valueOf(((VariableTree) told).getInitializer()).startsWith("Math.max(1, ");
    }

    @Override
    public Void visitCompoundAssignment(CompoundAssignmentTree tree, Void none) {
        Tree.Kind kind = tree.getKind();
        if (kind == Tree.Kind.DIVIDE_ASSIGNMENT || kind == Tree.Kind.REMAINDER_ASSIGNMENT) never(7, tree);
        rule(10, "between numbers: " + tree, isPlain(tree.getVariable()));
        return super.visitCompoundAssignment(tree, none);
    }

    @Override
    public Void visitTypeCast(TypeCastTree tree, Void none) {
        rule(7, "a cast of a number: " + tree, isPlain(tree.getExpression()) && tree.getType().toString().equals("int"));
        return super.visitTypeCast(tree, none);
    }

    @Override
    public Void scan(Tree tree, Void none) {
        if (tree != null) {
            switch (tree.getKind()) {
                case LAMBDA_EXPRESSION: case MEMBER_REFERENCE: never(2, tree); break;
                case THROW: case TRY: case CATCH: case SYNCHRONIZED: case ASSERT: case NULL_LITERAL: never(6, tree); break;
                case INSTANCE_OF: case DO_WHILE_LOOP: case ENHANCED_FOR_LOOP: case LABELED_STATEMENT: never(9, tree); break;
                case FLOAT_LITERAL: case DOUBLE_LITERAL: never(3, tree); break;
                default: break;
            }
        }
        return super.scan(tree, none);
    }

    // ---- the whole program ----

    private void whole() {
        rule(11, "classes: " + classes, classes <= 12);
        rule(7, "divisions are found", divisions > 5);
        int deepest = 0;
        for (String call : openToAll) deepest = Math.max(deepest, deep(call, new ArrayDeque<>()));
        Check.same("rule 11: how deep calls go", deepest, MOST_DEEP);
        Check.sameText("rule 8: methods that call themselves again", onRings.toString(), "[BlackRoad.Rate.one(BlackRoad.Tape,int), "
                + "BlackRoad.Rate.product(BlackRoad.Tape,int), BlackRoad.Rate.sum(BlackRoad.Tape,int)]");
    }

    /** How many calls stand open at once from this one on, each of a ring once. */
    private int deep(String call, Deque<String> open) {
        if (open.contains(call)) {
            for (String one : open) {
                onRings.add(one);
                if (one.equals(call)) break;
            }
            return 0;
        }
        open.push(call);
        int deepest = 0;
        for (String next : calls.getOrDefault(call, new TreeSet<>())) deepest = Math.max(deepest, deep(next, open));
        open.pop();
        return deepest + 1;
    }
}
