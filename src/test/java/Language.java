import com.sun.source.tree.ArrayAccessTree;
import com.sun.source.tree.AssertTree;
import com.sun.source.tree.AssignmentTree;
import com.sun.source.tree.BinaryTree;
import com.sun.source.tree.BlockTree;
import com.sun.source.tree.ClassTree;
import com.sun.source.tree.CompilationUnitTree;
import com.sun.source.tree.CompoundAssignmentTree;
import com.sun.source.tree.DoWhileLoopTree;
import com.sun.source.tree.EnhancedForLoopTree;
import com.sun.source.tree.ExpressionStatementTree;
import com.sun.source.tree.ExpressionTree;
import com.sun.source.tree.ForLoopTree;
import com.sun.source.tree.IdentifierTree;
import com.sun.source.tree.InstanceOfTree;
import com.sun.source.tree.LambdaExpressionTree;
import com.sun.source.tree.LiteralTree;
import com.sun.source.tree.MemberReferenceTree;
import com.sun.source.tree.MemberSelectTree;
import com.sun.source.tree.MethodInvocationTree;
import com.sun.source.tree.MethodTree;
import com.sun.source.tree.NewArrayTree;
import com.sun.source.tree.NewClassTree;
import com.sun.source.tree.ParenthesizedTree;
import com.sun.source.tree.PrimitiveTypeTree;
import com.sun.source.tree.SynchronizedTree;
import com.sun.source.tree.ThrowTree;
import com.sun.source.tree.Tree;
import com.sun.source.tree.TryTree;
import com.sun.source.tree.TypeCastTree;
import com.sun.source.tree.UnaryTree;
import com.sun.source.tree.VariableTree;
import com.sun.source.tree.WhileLoopTree;
import com.sun.source.util.JavacTask;
import com.sun.source.util.TreePath;
import com.sun.source.util.TreePathScanner;
import com.sun.source.util.TreeScanner;
import com.sun.source.util.Trees;
import java.io.IOException;
import java.net.URI;
import java.util.ArrayList;
import java.util.HashMap;
import java.util.HashSet;
import java.util.LinkedHashSet;
import java.util.List;
import java.util.Map;
import java.util.Set;
import java.util.TreeSet;
import javax.lang.model.element.Element;
import javax.lang.model.element.Modifier;
import javax.lang.model.element.VariableElement;
import javax.lang.model.type.ArrayType;
import javax.lang.model.type.TypeKind;
import javax.lang.model.type.TypeMirror;
import javax.tools.DiagnosticCollector;
import javax.tools.JavaCompiler;
import javax.tools.JavaFileObject;
import javax.tools.SimpleJavaFileObject;
import javax.tools.ToolProvider;

/**
 * Holds the text of a class against LANGUAGE.md. Where the rules leave several ways, it asks for the one that the
 * program takes: arrays made in the fields' initialisers, and loops that step one counter towards a bound.
 */
final class Language extends TreePathScanner<Void, Void> {
    private static final int MOST_PARAMETERS = 7;
    private static final int MOST_LINES = 60;
    private static final int MOST_FIELDS = 40;
    private static final int DEEPEST = 6;

    private final List<String> faults = new ArrayList<>();
    private final Map<Element, Set<Element>> calls = new HashMap<>();
    private final Map<Element, Set<Element>> assigned = new HashMap<>();
    private final List<Loop> loops = new ArrayList<>();
    private final Trees trees;
    private final CompilationUnitTree unit;
    private Element method;

    /** A loop's bound is looked at last, when it is known what each method changes. */
    private record Loop(String text, Set<Element> bound, Set<Element> changed, Set<Element> called) {
    }

    private Language(Trees trees, CompilationUnitTree unit) {
        this.trees = trees;
        this.unit = unit;
    }

    /** Each fault, beginning with the number of the rule; 0 stands for a text that does not compile. */
    static List<String> faults(String text) throws IOException {
        JavaCompiler compiler = ToolProvider.getSystemJavaCompiler();
        DiagnosticCollector<JavaFileObject> errors = new DiagnosticCollector<>();
        JavacTask task = (JavacTask) compiler.getTask(null, null, errors, List.of("--release", "17", "-proc:none"),
            null, List.of(new Text(text)));
        CompilationUnitTree unit = task.parse().iterator().next();
        task.analyze();
        if (!errors.getDiagnostics().isEmpty()) {
            return List.of("0 " + errors.getDiagnostics().get(0));
        }
        Language language = new Language(Trees.instance(task), unit);
        language.scan(unit, null);
        language.calls();
        language.loops();
        return language.faults;
    }

    private static final class Text extends SimpleJavaFileObject {
        private final String text;

        Text(String text) {
            super(URI.create("string:///RuleMatcher.java"), Kind.SOURCE);
            this.text = text;
        }

        @Override
        public CharSequence getCharContent(boolean ignoreErrors) {
            return text;
        }
    }

    @Override
    public Void visitCompilationUnit(CompilationUnitTree node, Void v) {
        fault(1, "a package", node.getPackageName() != null);
        fault(1, "more than one class", node.getTypeDecls().size() != 1);
        fault(3, "an import", !node.getImports().isEmpty());
        return super.visitCompilationUnit(node, v);
    }

    @Override
    public Void visitClass(ClassTree node, Void v) {
        Set<Modifier> modifiers = node.getModifiers().getFlags();
        fault(1, "a class in the class", !(parent() instanceof CompilationUnitTree));
        fault(1, "not a class, public and final", node.getKind() != Tree.Kind.CLASS
            || !modifiers.contains(Modifier.PUBLIC) || !modifiers.contains(Modifier.FINAL));
        fault(1, "behind another class", node.getExtendsClause() != null || !node.getImplementsClause().isEmpty());
        namesOf(node);
        fieldsOf(node);
        return super.visitClass(node, v);
    }

    private void namesOf(ClassTree node) {
        Set<String> open = new HashSet<>();
        Set<String> hidden = new HashSet<>();
        for (Tree member : node.getMembers()) {
            if (member instanceof MethodTree m) {
                boolean isPublic = m.getModifiers().getFlags().contains(Modifier.PUBLIC);
                boolean isPrivate = m.getModifiers().getFlags().contains(Modifier.PRIVATE);
                fault(1, "neither public nor private: " + m.getName(), !isPublic && !isPrivate);
                (isPublic ? open : hidden).add(m.getName().toString());
            }
        }
        hidden.retainAll(open);
        fault(1, "a private method named like a public one: " + hidden, !hidden.isEmpty());
    }

    private void fieldsOf(ClassTree node) {
        int changing = 0;
        for (Tree member : node.getMembers()) {
            if (member instanceof VariableTree field) {
                Set<Modifier> modifiers = field.getModifiers().getFlags();
                VariableElement element = (VariableElement) trees.getElement(new TreePath(getCurrentPath(), field));
                TypeKind kind = element.asType().getKind();
                fault(1, "a field not private: " + field.getName(), !modifiers.contains(Modifier.PRIVATE));
                if (modifiers.contains(Modifier.STATIC)) {
                    fault(5, "not a constant: " + field.getName(), element.getConstantValue() == null
                        || kind != TypeKind.INT && kind != TypeKind.LONG);
                } else {
                    changing++;
                    fault(4, "an array that can be another one: " + field.getName(),
                        kind == TypeKind.ARRAY && !modifiers.contains(Modifier.FINAL));
                }
            }
        }
        fault(10, changing + " fields", changing > MOST_FIELDS);
    }

    @Override
    public Void visitBlock(BlockTree node, Void v) {
        fault(5, "an initialiser", parent() instanceof ClassTree);
        return super.visitBlock(node, v);
    }

    @Override
    public Void visitMethod(MethodTree node, Void v) {
        method = element();
        calls.put(method, new LinkedHashSet<>());
        assigned.put(method, new HashSet<>());
        fault(4, "answers an array: " + node.getName(),
            node.getReturnType() != null && node.getReturnType().getKind() == Tree.Kind.ARRAY_TYPE);
        fault(10, "too many parameters: " + node.getName(), node.getParameters().size() > MOST_PARAMETERS);
        fault(10, "too long: " + node.getName(), linesOf(node) > MOST_LINES);
        super.visitMethod(node, v);
        method = null;
        return null;
    }

    private long linesOf(Tree node) {
        long start = trees.getSourcePositions().getStartPosition(unit, node);
        long end = trees.getSourcePositions().getEndPosition(unit, node);
        return unit.getLineMap().getLineNumber(end) - unit.getLineMap().getLineNumber(start) + 1;
    }

    @Override
    public Void visitVariable(VariableTree node, Void v) {
        fault(2, "a type: " + node, !isNumbers(element().asType()));
        return super.visitVariable(node, v);
    }

    @Override
    public Void visitLiteral(LiteralTree node, Void v) {
        fault(4, "null", node.getKind() == Tree.Kind.NULL_LITERAL);
        fault(2, "a literal: " + node, node.getKind() != Tree.Kind.NULL_LITERAL
            && !isNumbers(trees.getTypeMirror(getCurrentPath())));
        return super.visitLiteral(node, v);
    }

    @Override
    public Void visitNewArray(NewArrayTree node, Void v) {
        TreePath place = getCurrentPath().getParentPath();
        boolean inField = place.getLeaf() instanceof VariableTree
            && place.getParentPath().getLeaf() instanceof ClassTree;
        fault(4, "an array made elsewhere: " + node, !inField);
        fault(4, "an array without one length: " + node, node.getDimensions().size() != 1);
        for (ExpressionTree length : node.getDimensions()) {
            fault(4, "a length: " + length, !(constant(length) instanceof Integer n) || n < 1);
        }
        return super.visitNewArray(node, v);
    }

    @Override
    public Void visitNewClass(NewClassTree node, Void v) {
        fault(4, "an object: " + node, true);
        return super.visitNewClass(node, v);
    }

    @Override
    public Void visitMemberSelect(MemberSelectTree node, Void v) {
        TypeMirror of = trees.getTypeMirror(new TreePath(getCurrentPath(), node.getExpression()));
        boolean length = of != null && of.getKind() == TypeKind.ARRAY && node.getIdentifier().contentEquals("length");
        fault(3, "of another class: " + node, !length);
        return super.visitMemberSelect(node, v);
    }

    @Override
    public Void visitTypeCast(TypeCastTree node, Void v) {
        fault(6, "a cast: " + node, !(node.getType() instanceof PrimitiveTypeTree));
        return super.visitTypeCast(node, v);
    }

    @Override
    public Void visitThrow(ThrowTree node, Void v) {
        fault(6, "throw", true);
        return super.visitThrow(node, v);
    }

    @Override
    public Void visitTry(TryTree node, Void v) {
        fault(6, "try", true);
        return super.visitTry(node, v);
    }

    @Override
    public Void visitSynchronized(SynchronizedTree node, Void v) {
        fault(6, "synchronized", true);
        return super.visitSynchronized(node, v);
    }

    @Override
    public Void visitAssert(AssertTree node, Void v) {
        fault(6, "assert", true);
        return super.visitAssert(node, v);
    }

    @Override
    public Void visitInstanceOf(InstanceOfTree node, Void v) {
        fault(6, "instanceof", true);
        return super.visitInstanceOf(node, v);
    }

    @Override
    public Void visitLambdaExpression(LambdaExpressionTree node, Void v) {
        fault(6, "a lambda", true);
        return super.visitLambdaExpression(node, v);
    }

    @Override
    public Void visitMemberReference(MemberReferenceTree node, Void v) {
        fault(6, "a method reference", true);
        return super.visitMemberReference(node, v);
    }

    @Override
    public Void visitBinary(BinaryTree node, Void v) {
        Tree.Kind kind = node.getKind();
        if (kind == Tree.Kind.DIVIDE || kind == Tree.Kind.REMAINDER) {
            divisor(node.getRightOperand());
        }
        boolean compares = kind == Tree.Kind.EQUAL_TO || kind == Tree.Kind.NOT_EQUAL_TO;
        TypeMirror left = trees.getTypeMirror(new TreePath(getCurrentPath(), node.getLeftOperand()));
        fault(4, "arrays compared: " + node, compares && left.getKind() == TypeKind.ARRAY);
        return super.visitBinary(node, v);
    }

    private void divisor(ExpressionTree tree) {
        Object value = constant(tree);
        fault(7, "a divisor that may be 0: " + tree, !(value instanceof Number n) || n.longValue() == 0);
    }

    private Object constant(ExpressionTree tree) {
        if (tree instanceof LiteralTree literal) {
            return literal.getValue();
        }
        Element element = trees.getElement(new TreePath(getCurrentPath(), tree));
        return element instanceof VariableElement variable ? variable.getConstantValue() : null;
    }

    @Override
    public Void visitAssignment(AssignmentTree node, Void v) {
        assigns(node.getVariable());
        return super.visitAssignment(node, v);
    }

    @Override
    public Void visitCompoundAssignment(CompoundAssignmentTree node, Void v) {
        assigns(node.getVariable());
        if (node.getKind() == Tree.Kind.DIVIDE_ASSIGNMENT || node.getKind() == Tree.Kind.REMAINDER_ASSIGNMENT) {
            divisor(node.getExpression());
        }
        return super.visitCompoundAssignment(node, v);
    }

    @Override
    public Void visitUnary(UnaryTree node, Void v) {
        if (steps(node)) {
            assigns(node.getExpression());
        }
        return super.visitUnary(node, v);
    }

    private static boolean steps(UnaryTree node) {
        return goesUp(node) || node.getKind() == Tree.Kind.POSTFIX_DECREMENT
            || node.getKind() == Tree.Kind.PREFIX_DECREMENT;
    }

    private static boolean goesUp(UnaryTree node) {
        return node.getKind() == Tree.Kind.POSTFIX_INCREMENT || node.getKind() == Tree.Kind.PREFIX_INCREMENT;
    }

    private void assigns(ExpressionTree target) {
        if (method != null) {
            assigned.get(method).add(named(target));
        }
    }

    /** The variable itself, or the array whose item it is. */
    private Element named(ExpressionTree target) {
        ExpressionTree tree = target;
        while (tree instanceof ArrayAccessTree || tree instanceof ParenthesizedTree) {
            tree = tree instanceof ArrayAccessTree item ? item.getExpression()
                : ((ParenthesizedTree) tree).getExpression();
        }
        return trees.getElement(trees.getPath(unit, tree));
    }

    @Override
    public Void visitMethodInvocation(MethodInvocationTree node, Void v) {
        if (isSuper(node)) {
            // The compiler's own call at the beginning of a constructor.
            return null;
        }
        Element called = trees.getElement(new TreePath(getCurrentPath(), node.getMethodSelect()));
        Element own = trees.getElement(trees.getPath(unit, unit.getTypeDecls().get(0)));
        fault(3, "a method of another class: " + node, !called.getEnclosingElement().equals(own));
        for (ExpressionTree argument : node.getArguments()) {
            fault(10, "a call inside a call: " + node, !callsIn(argument).isEmpty());
        }
        if (method != null) {
            calls.get(method).add(called);
        }
        return super.visitMethodInvocation(node, v);
    }

    private static boolean isSuper(MethodInvocationTree node) {
        return node.getMethodSelect() instanceof IdentifierTree name && name.getName().contentEquals("super");
    }

    private Set<Element> callsIn(Tree tree) {
        Set<Element> found = new LinkedHashSet<>();
        new TreeScanner<Void, Void>() {
            @Override
            public Void visitMethodInvocation(MethodInvocationTree node, Void v) {
                found.add(trees.getElement(trees.getPath(unit, node.getMethodSelect())));
                return super.visitMethodInvocation(node, v);
            }
        }.scan(tree, null);
        return found;
    }

    @Override
    public Void visitForLoop(ForLoopTree node, Void v) {
        boolean one = node.getUpdate().size() == 1 && node.getUpdate().get(0).getExpression() instanceof UnaryTree;
        UnaryTree step = one ? (UnaryTree) node.getUpdate().get(0).getExpression() : null;
        loop(node.getCondition(), step, node.getStatement(), 0);
        return super.visitForLoop(node, v);
    }

    @Override
    public Void visitWhileLoop(WhileLoopTree node, Void v) {
        loop(node.getCondition(), stepIn(node.getStatement()), node.getStatement(), 1);
        return super.visitWhileLoop(node, v);
    }

    @Override
    public Void visitDoWhileLoop(DoWhileLoopTree node, Void v) {
        loop(node.getCondition(), stepIn(node.getStatement()), node.getStatement(), 1);
        return super.visitDoWhileLoop(node, v);
    }

    @Override
    public Void visitEnhancedForLoop(EnhancedForLoopTree node, Void v) {
        fault(8, "a loop without a counter", true);
        return super.visitEnhancedForLoop(node, v);
    }

    /** The last statement of the body, if it steps a counter and no continue can pass it by. */
    private static UnaryTree stepIn(Tree body) {
        if (!(body instanceof BlockTree block) || block.getStatements().isEmpty()
                || block.toString().contains("continue")) {
            return null;
        }
        Tree last = block.getStatements().get(block.getStatements().size() - 1);
        return last instanceof ExpressionStatementTree statement
            && statement.getExpression() instanceof UnaryTree step ? step : null;
    }

    private void loop(ExpressionTree condition, UnaryTree step, Tree body, int stepsInBody) {
        String text = "a loop whose end is not seen: " + condition;
        if (step == null || condition == null) {
            fault(8, text, true);
            return;
        }
        Element counter = named(step.getExpression());
        Set<Element> bound = boundOf(condition, counter, goesUp(step));
        List<Element> changed = changesIn(body);
        fault(8, text, bound == null || changed.stream().filter(counter::equals).count() != stepsInBody);
        if (bound != null) {
            loops.add(new Loop(text, bound, new HashSet<>(changed), callsIn(body)));
        }
    }

    /** What the counter is compared with in one of the condition's parts, or null if there is no such part. */
    private Set<Element> boundOf(ExpressionTree condition, Element counter, boolean up) {
        ExpressionTree tree = condition;
        while (tree instanceof ParenthesizedTree inner) {
            tree = inner.getExpression();
        }
        if (!(tree instanceof BinaryTree binary)) {
            return null;
        }
        if (binary.getKind() == Tree.Kind.CONDITIONAL_AND) {
            Set<Element> left = boundOf(binary.getLeftOperand(), counter, up);
            return left != null ? left : boundOf(binary.getRightOperand(), counter, up);
        }
        boolean upwards = binary.getKind() == Tree.Kind.LESS_THAN || binary.getKind() == Tree.Kind.LESS_THAN_EQUAL;
        boolean downwards = binary.getKind() == Tree.Kind.GREATER_THAN
            || binary.getKind() == Tree.Kind.GREATER_THAN_EQUAL;
        boolean towards = up ? upwards : downwards;
        return towards && counter.equals(named(binary.getLeftOperand())) ? namesIn(binary.getRightOperand()) : null;
    }

    private Set<Element> namesIn(Tree tree) {
        Set<Element> found = new HashSet<>();
        new TreeScanner<Void, Void>() {
            @Override
            public Void visitIdentifier(IdentifierTree node, Void v) {
                found.add(trees.getElement(trees.getPath(unit, node)));
                return null;
            }
        }.scan(tree, null);
        return found;
    }

    private List<Element> changesIn(Tree body) {
        List<Element> found = new ArrayList<>();
        new TreeScanner<Void, Void>() {
            @Override
            public Void visitAssignment(AssignmentTree node, Void v) {
                found.add(named(node.getVariable()));
                return super.visitAssignment(node, v);
            }

            @Override
            public Void visitCompoundAssignment(CompoundAssignmentTree node, Void v) {
                found.add(named(node.getVariable()));
                return super.visitCompoundAssignment(node, v);
            }

            @Override
            public Void visitUnary(UnaryTree node, Void v) {
                if (steps(node)) {
                    found.add(named(node.getExpression()));
                }
                return super.visitUnary(node, v);
            }
        }.scan(body, null);
        return found;
    }

    private void loops() {
        for (Loop loop : loops) {
            Set<Element> changed = new HashSet<>(loop.changed);
            for (Element called : reached(loop.called)) {
                changed.addAll(assigned.getOrDefault(called, Set.of()));
            }
            changed.retainAll(loop.bound);
            fault(8, loop.text + ", its bound changes: " + changed, !changed.isEmpty());
        }
    }

    private Set<Element> reached(Set<Element> from) {
        Set<Element> all = new LinkedHashSet<>();
        List<Element> open = new ArrayList<>(from);
        while (!open.isEmpty()) {
            Element next = open.remove(0);
            if (all.add(next)) {
                open.addAll(calls.getOrDefault(next, Set.of()));
            }
        }
        return all;
    }

    private void calls() {
        Set<String> recursive = new TreeSet<>();
        for (Element from : calls.keySet()) {
            if (reached(calls.get(from)).contains(from)) {
                recursive.add(from.toString());
            }
        }
        fault(8, "recursion: " + recursive, !recursive.isEmpty());
        if (recursive.isEmpty()) {
            for (Element from : calls.keySet()) {
                fault(10, "calls too deep from " + from + ": " + depth(from), depth(from) > DEEPEST);
            }
        }
    }

    /** How many methods stand on each other at most, this one among them. */
    private int depth(Element from) {
        int deepest = 0;
        for (Element called : calls.getOrDefault(from, Set.of())) {
            deepest = Math.max(deepest, depth(called));
        }
        return deepest + 1;
    }

    private static boolean isNumbers(TypeMirror type) {
        TypeMirror item = type instanceof ArrayType array ? array.getComponentType() : type;
        return item.getKind().isPrimitive() && item.getKind() != TypeKind.FLOAT && item.getKind() != TypeKind.DOUBLE;
    }

    private Tree parent() {
        return getCurrentPath().getParentPath().getLeaf();
    }

    private Element element() {
        return trees.getElement(getCurrentPath());
    }

    private void fault(int rule, String what, boolean found) {
        if (found) {
            faults.add(rule + " " + what);
        }
    }
}
