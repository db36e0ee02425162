import com.sun.source.tree.AnnotatedTypeTree;
import com.sun.source.tree.AssertTree;
import com.sun.source.tree.AssignmentTree;
import com.sun.source.tree.BinaryTree;
import com.sun.source.tree.BlockTree;
import com.sun.source.tree.ClassTree;
import com.sun.source.tree.CompilationUnitTree;
import com.sun.source.tree.CompoundAssignmentTree;
import com.sun.source.tree.DoWhileLoopTree;
import com.sun.source.tree.EnhancedForLoopTree;
import com.sun.source.tree.ExpressionTree;
import com.sun.source.tree.ForLoopTree;
import com.sun.source.tree.IdentifierTree;
import com.sun.source.tree.LambdaExpressionTree;
import com.sun.source.tree.MemberReferenceTree;
import com.sun.source.tree.MemberSelectTree;
import com.sun.source.tree.MethodInvocationTree;
import com.sun.source.tree.MethodTree;
import com.sun.source.tree.NewArrayTree;
import com.sun.source.tree.NewClassTree;
import com.sun.source.tree.ParenthesizedTree;
import com.sun.source.tree.SynchronizedTree;
import com.sun.source.tree.ThrowTree;
import com.sun.source.tree.Tree;
import com.sun.source.tree.TryTree;
import com.sun.source.tree.TypeCastTree;
import com.sun.source.tree.UnaryTree;
import com.sun.source.tree.VariableTree;
import com.sun.source.tree.WhileLoopTree;
import com.sun.source.util.JavacTask;
import com.sun.source.util.TreePath;
import com.sun.source.util.TreePathScanner;
import com.sun.source.util.TreeScanner;
import com.sun.source.util.Trees;
import java.io.IOException;
import java.net.URI;
import java.util.ArrayList;
import java.util.LinkedHashMap;
import java.util.LinkedHashSet;
import java.util.List;
import java.util.Map;
import java.util.Set;
import javax.lang.model.element.Element;
import javax.lang.model.element.ElementKind;
import javax.lang.model.element.ExecutableElement;
import javax.lang.model.element.Modifier;
import javax.lang.model.element.TypeElement;
import javax.lang.model.element.VariableElement;
import javax.lang.model.type.ArrayType;
import javax.lang.model.type.DeclaredType;
import javax.lang.model.type.TypeKind;
import javax.lang.model.type.TypeMirror;
import javax.tools.DiagnosticCollector;
import javax.tools.JavaFileObject;
import javax.tools.SimpleJavaFileObject;
import javax.tools.ToolProvider;

/**
 * Reads a program with javac's own trees and tells what LANGUAGE.md does not allow, as far as that can be seen
 * there. It is narrower than the rules where DawnHouse needs less: no texts, no lists, no division, no cast among
 * classes, and nothing made outside constructors and initialisers.
 */
final class Rules extends TreePathScanner<Void, Void> {
    private static final int MOST_CLASSES = 12;
    private static final int MOST_FIELDS = 20;
    private static final int MOST_LINES = 60;
    private static final int MOST_PARAMETERS = 7;
    private static final int MOST_DEEP = 8;
    private static final Set<String> LIBRARY = Set.of(
        "java.lang.Integer.bitCount", "java.lang.Integer.compare", "java.lang.Math.max", "java.lang.Math.min",
        "java.lang.Math.abs", "java.lang.System.arraycopy", "java.util.Arrays.fill");

    private final List<String> faults = new ArrayList<>();
    private final Map<Element, Set<Element>> calls = new LinkedHashMap<>();
    private final Set<Element> own = new LinkedHashSet<>();
    private final CompilationUnitTree unit;
    private final Trees trees;

    private Rules(CompilationUnitTree unit, Trees trees) {
        this.unit = unit;
        this.trees = trees;
    }

    /** Each fault begins with the rule's number and a colon; "0" is that the program does not compile. */
    static List<String> faultsOf(String source) throws IOException {
        DiagnosticCollector<JavaFileObject> told = new DiagnosticCollector<>();
        JavacTask task = (JavacTask) ToolProvider.getSystemJavaCompiler()
            .getTask(null, null, told, List.of("-proc:none"), null, List.of(new Source(source)));
        CompilationUnitTree unit = task.parse().iterator().next();
        task.analyze();
        Rules rules = new Rules(unit, Trees.instance(task));
        told.getDiagnostics().stream().filter(d -> d.getKind() == javax.tools.Diagnostic.Kind.ERROR)
            .forEach(d -> rules.faults.add("0: " + d.getMessage(null)));
        if (rules.faults.isEmpty()) {
            rules.look();
        }
        return rules.faults;
    }

    private static final class Source extends SimpleJavaFileObject {
        private final String text;

        Source(String text) {
            super(URI.create("string:///DawnHouse.java"), Kind.SOURCE);
            this.text = text;
        }

        @Override
        public CharSequence getCharContent(boolean ignoreEncodingErrors) {
            return text;
        }
    }

    private void look() {
        new TreePathScanner<Void, Void>() {
            @Override
            public Void visitClass(ClassTree tree, Void v) {
                own.add(trees.getElement(getCurrentPath()));
                return super.visitClass(tree, v);
            }
        }.scan(unit, null);
        must(unit.getPackage() == null, 0, unit, "a package");
        must(unit.getImports().isEmpty(), 4, unit, "an import");
        must(own.size() <= MOST_CLASSES, 11, unit, "classes");
        scan(unit, null);
        lookAtCalls();
    }

    private void must(boolean holds, int rule, Tree tree, String what) {
        if (!holds) {
            long line = unit.getLineMap().getLineNumber(Math.max(0, trees.getSourcePositions().getStartPosition(unit, tree)));
            faults.add(rule + ": line " + line + ": " + what);
        }
    }

    private Element element(Tree tree) {
        return trees.getElement(TreePath.getPath(unit, tree));
    }

    private TypeMirror type(Tree tree) {
        return trees.getTypeMirror(TreePath.getPath(unit, tree));
    }

    private boolean isOwn(Element e) {
        return own.contains(e);
    }

    @Override
    public Void visitClass(ClassTree tree, Void v) {
        Element e = element(tree);
        boolean outer = getCurrentPath().getParentPath().getLeaf() == unit;
        boolean inClass = outer || own.contains(e.getEnclosingElement());
        must(inClass && !tree.getSimpleName().isEmpty(), 2, tree, "a local or anonymous class");
        must(outer || e.getModifiers().contains(Modifier.STATIC), 2, tree, "an inner class that is not static");
        must(outer || !e.getModifiers().contains(Modifier.PUBLIC) && !e.getModifiers().contains(Modifier.PROTECTED), 1, tree,
            "a class inside that can be seen");
        int fields = 0;
        for (Tree member : tree.getMembers()) {
            boolean isField = member instanceof VariableTree x && !x.getModifiers().getFlags().contains(Modifier.STATIC);
            fields += isField ? 1 : 0;
            must(!(member instanceof BlockTree), 5, member, "an initialiser block");
        }
        must(fields <= MOST_FIELDS, 11, tree, "fields of " + tree.getSimpleName());
        return super.visitClass(tree, v);
    }

    @Override
    public Void visitMethod(MethodTree tree, Void v) {
        Element e = element(tree);
        calls.computeIfAbsent(e, k -> new LinkedHashSet<>());
        long begin = trees.getSourcePositions().getStartPosition(unit, tree);
        long end = trees.getSourcePositions().getEndPosition(unit, tree);
        if (begin >= 0 && end > begin) {
            long lines = unit.getLineMap().getLineNumber(end) - unit.getLineMap().getLineNumber(begin) + 1;
            must(lines <= MOST_LINES, 11, tree, "length of " + tree.getName());
        }
        must(tree.getParameters().size() <= MOST_PARAMETERS, 11, tree, "parameters of " + tree.getName());
        must(tree.getThrows().isEmpty(), 6, tree, "throws");
        must(!e.getModifiers().contains(Modifier.SYNCHRONIZED), 6, tree, "synchronized");
        must(!e.getModifiers().contains(Modifier.NATIVE), 4, tree, "native");
        return super.visitMethod(tree, v);
    }

    @Override
    public Void visitVariable(VariableTree tree, Void v) {
        Element e = element(tree);
        must(isAllowed(e.asType()), 3, tree, "the type of " + tree.getName());
        if (e.getKind() == ElementKind.FIELD && e.getModifiers().contains(Modifier.STATIC)) {
            boolean constant = ((VariableElement) e).getConstantValue() != null;
            must(constant && e.getModifiers().contains(Modifier.FINAL), 5, tree, "a static field that is no constant: " + tree.getName());
        }
        boolean volatileOrSo = e.getModifiers().contains(Modifier.VOLATILE) || e.getModifiers().contains(Modifier.TRANSIENT);
        must(!volatileOrSo, 6, tree, "volatile or transient");
        return super.visitVariable(tree, v);
    }

    private boolean isAllowed(TypeMirror t) {
        if (t.getKind() == TypeKind.ARRAY) {
            TypeMirror inner = ((ArrayType) t).getComponentType();
            return inner.getKind() != TypeKind.ARRAY && isAllowed(inner);
        }
        boolean isNumber = t.getKind().isPrimitive() && t.getKind() != TypeKind.DOUBLE && t.getKind() != TypeKind.FLOAT;
        return isNumber || t.getKind() == TypeKind.DECLARED && isOwn(((DeclaredType) t).asElement());
    }

    @Override
    public Void visitMethodInvocation(MethodInvocationTree tree, Void v) {
        Element e = element(tree);
        Element owner = e.getEnclosingElement();
        if (isOwn(owner)) {
            noteCall(e);
        } else {
            String name = ((TypeElement) owner).getQualifiedName() + "." + e.getSimpleName();
            boolean superCall = name.equals("java.lang.Object.<init>");
            must(superCall || LIBRARY.contains(name), 4, tree, name);
            noteCall(e);
        }
        return super.visitMethodInvocation(tree, v);
    }

    private void noteCall(Element called) {
        Element from = callingMethod();
        if (from != null) {
            calls.computeIfAbsent(from, k -> new LinkedHashSet<>()).add(called);
        }
    }

    private Element callingMethod() {
        for (TreePath p = getCurrentPath(); p != null; p = p.getParentPath()) {
            if (p.getLeaf() instanceof MethodTree) {
                return trees.getElement(p);
            }
        }
        return null;
    }

    @Override
    public Void visitMemberSelect(MemberSelectTree tree, Void v) {
        Element e = element(tree);
        if (e != null && e.getKind() == ElementKind.FIELD && !isOwn(e.getEnclosingElement())) {
            boolean length = type(tree.getExpression()) != null && type(tree.getExpression()).getKind() == TypeKind.ARRAY;
            must(length, 4, tree, "a field of the library: " + tree);
        }
        return super.visitMemberSelect(tree, v);
    }

    @Override
    public Void visitNewClass(NewClassTree tree, Void v) {
        must(tree.getClassBody() == null, 2, tree, "an anonymous class");
        must(isOwn(element(tree.getIdentifier())), 4, tree, "an object of the library: " + tree.getIdentifier());
        mustBeMadeOnce(tree);
        noteCall(element(tree));
        return super.visitNewClass(tree, v);
    }

    @Override
    public Void visitNewArray(NewArrayTree tree, Void v) {
        mustBeMadeOnce(tree);
        return super.visitNewArray(tree, v);
    }

    private void mustBeMadeOnce(Tree tree) {
        Element from = callingMethod();
        must(from == null || from.getKind() == ElementKind.CONSTRUCTOR, 12, tree, "made in a call");
    }

    @Override
    public Void visitBinary(BinaryTree tree, Void v) {
        boolean divides = tree.getKind() == Tree.Kind.DIVIDE || tree.getKind() == Tree.Kind.REMAINDER;
        must(!divides, 7, tree, "a division");
        must(type(tree).getKind().isPrimitive(), 10, tree, "texts joined by +");
        boolean sameness = tree.getKind() == Tree.Kind.EQUAL_TO || tree.getKind() == Tree.Kind.NOT_EQUAL_TO;
        must(!sameness || type(tree.getLeftOperand()).getKind().isPrimitive(), 6, tree, "objects compared");
        return super.visitBinary(tree, v);
    }

    @Override
    public Void visitCompoundAssignment(CompoundAssignmentTree tree, Void v) {
        boolean divides = tree.getKind() == Tree.Kind.DIVIDE_ASSIGNMENT || tree.getKind() == Tree.Kind.REMAINDER_ASSIGNMENT;
        must(!divides, 7, tree, "a division");
        return super.visitCompoundAssignment(tree, v);
    }

    @Override
    public Void visitTypeCast(TypeCastTree tree, Void v) {
        must(type(tree).getKind().isPrimitive(), 6, tree, "a cast among classes");
        return super.visitTypeCast(tree, v);
    }

    @Override
    public Void visitLambdaExpression(LambdaExpressionTree tree, Void v) {
        must(false, 2, tree, "a lambda");
        return super.visitLambdaExpression(tree, v);
    }

    @Override
    public Void visitMemberReference(MemberReferenceTree tree, Void v) {
        must(false, 2, tree, "a method reference");
        return super.visitMemberReference(tree, v);
    }

    @Override
    public Void visitAnnotatedType(AnnotatedTypeTree tree, Void v) {
        must(false, 4, tree, "an annotation");
        return super.visitAnnotatedType(tree, v);
    }

    @Override
    public Void visitThrow(ThrowTree tree, Void v) {
        must(false, 6, tree, "throw");
        return super.visitThrow(tree, v);
    }

    @Override
    public Void visitTry(TryTree tree, Void v) {
        must(false, 6, tree, "try");
        return super.visitTry(tree, v);
    }

    @Override
    public Void visitSynchronized(SynchronizedTree tree, Void v) {
        must(false, 6, tree, "synchronized");
        return super.visitSynchronized(tree, v);
    }

    @Override
    public Void visitAssert(AssertTree tree, Void v) {
        must(false, 6, tree, "assert");
        return super.visitAssert(tree, v);
    }

    @Override
    public Void visitForLoop(ForLoopTree tree, Void v) {
        must(tree.getUpdate().stream().anyMatch(u -> bounds(tree.getCondition(), u)), 9, tree, "a loop without a bound in its head");
        return super.visitForLoop(tree, v);
    }

    @Override
    public Void visitWhileLoop(WhileLoopTree tree, Void v) {
        must(bounds(tree.getCondition(), tree.getStatement()), 9, tree, "a loop without a bound in its lines");
        return super.visitWhileLoop(tree, v);
    }

    @Override
    public Void visitDoWhileLoop(DoWhileLoopTree tree, Void v) {
        must(bounds(tree.getCondition(), tree.getStatement()), 9, tree, "a loop without a bound in its lines");
        return super.visitDoWhileLoop(tree, v);
    }

    @Override
    public Void visitEnhancedForLoop(EnhancedForLoopTree tree, Void v) {
        must(type(tree.getExpression()).getKind() == TypeKind.ARRAY, 12, tree, "a loop over what is no array");
        return super.visitEnhancedForLoop(tree, v);
    }

    /** A comparison that must hold for one more round is of a counter that each round moves. */
    private boolean bounds(ExpressionTree condition, Tree mover) {
        if (condition instanceof ParenthesizedTree p) {
            return bounds(p.getExpression(), mover);
        }
        if (!(condition instanceof BinaryTree b)) {
            return false;
        }
        switch (b.getKind()) {
            case CONDITIONAL_AND:
                return bounds(b.getLeftOperand(), mover) || bounds(b.getRightOperand(), mover);
            case LESS_THAN:
            case LESS_THAN_EQUAL:
            case GREATER_THAN:
            case GREATER_THAN_EQUAL:
                return b.getLeftOperand() instanceof IdentifierTree && moves(element(b.getLeftOperand()), mover);
            default:
                return false;
        }
    }

    private boolean moves(Element counter, Tree mover) {
        boolean[] found = {false};
        new TreeScanner<Void, Void>() {
            @Override
            public Void visitUnary(UnaryTree tree, Void v) {
                boolean steps = tree.getKind() == Tree.Kind.POSTFIX_INCREMENT || tree.getKind() == Tree.Kind.POSTFIX_DECREMENT;
                found[0] |= steps && element(tree.getExpression()) == counter;
                return super.visitUnary(tree, v);
            }

            @Override
            public Void visitCompoundAssignment(CompoundAssignmentTree tree, Void v) {
                found[0] |= element(tree.getVariable()) == counter;
                return super.visitCompoundAssignment(tree, v);
            }

            @Override
            public Void visitAssignment(AssignmentTree tree, Void v) {
                found[0] |= element(tree.getVariable()) == counter;
                return super.visitAssignment(tree, v);
            }
        }.scan(mover, null);
        return found[0];
    }

    private void lookAtCalls() {
        for (Element m : calls.keySet()) {
            if (reaches(m, m, new LinkedHashSet<>())) {
                boolean guarded = m.getModifiers().contains(Modifier.PRIVATE)
                    && ((ExecutableElement) m).getParameters().stream().anyMatch(p -> p.getSimpleName().contentEquals("depth"));
                must(guarded, 8, unit, "recursion without a depth: " + m);
            }
            int deep = deepest(m, new LinkedHashSet<>());
            must(deep <= MOST_DEEP, 11, unit, "calls go " + deep + " deep from " + m);
        }
    }

    private boolean reaches(Element from, Element to, Set<Element> seen) {
        for (Element next : calls.getOrDefault(from, Set.of())) {
            if (next == to || seen.add(next) && reaches(next, to, seen)) {
                return true;
            }
        }
        return false;
    }

    private int deepest(Element from, Set<Element> open) {
        open.add(from);
        int deep = 0;
        for (Element next : calls.getOrDefault(from, Set.of())) {
            if (!open.contains(next)) {
                deep = Math.max(deep, deepest(next, open));
            }
        }
        open.remove(from);
        return deep + 1;
    }
}
