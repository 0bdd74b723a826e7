import com.sun.source.tree.ArrayAccessTree;
import com.sun.source.tree.AssertTree;
import com.sun.source.tree.AssignmentTree;
import com.sun.source.tree.BinaryTree;
import com.sun.source.tree.CaseTree;
import com.sun.source.tree.ClassTree;
import com.sun.source.tree.CompilationUnitTree;
import com.sun.source.tree.CompoundAssignmentTree;
import com.sun.source.tree.DoWhileLoopTree;
import com.sun.source.tree.ExpressionTree;
import com.sun.source.tree.ForLoopTree;
import com.sun.source.tree.IdentifierTree;
import com.sun.source.tree.LambdaExpressionTree;
import com.sun.source.tree.LiteralTree;
import com.sun.source.tree.MemberReferenceTree;
import com.sun.source.tree.MethodInvocationTree;
import com.sun.source.tree.MethodTree;
import com.sun.source.tree.NewArrayTree;
import com.sun.source.tree.NewClassTree;
import com.sun.source.tree.SwitchExpressionTree;
import com.sun.source.tree.SynchronizedTree;
import com.sun.source.tree.ThrowTree;
import com.sun.source.tree.Tree;
import com.sun.source.tree.TryTree;
import com.sun.source.tree.TypeCastTree;
import com.sun.source.tree.UnaryTree;
import com.sun.source.tree.VariableTree;
import com.sun.source.tree.WhileLoopTree;
import com.sun.source.util.JavacTask;
import com.sun.source.util.SourcePositions;
import com.sun.source.util.TreePath;
import com.sun.source.util.TreePathScanner;
import com.sun.source.util.Trees;
import java.io.IOException;
import java.net.URI;
import java.util.ArrayList;
import java.util.Collections;
import java.util.HashMap;
import java.util.HashSet;
import java.util.List;
import java.util.Map;
import java.util.Set;
import java.util.TreeSet;
import java.util.regex.Pattern;
import javax.lang.model.element.Element;
import javax.lang.model.element.ElementKind;
import javax.lang.model.element.ExecutableElement;
import javax.lang.model.element.Modifier;
import javax.lang.model.element.TypeElement;
import javax.lang.model.element.VariableElement;
import javax.lang.model.type.ArrayType;
import javax.lang.model.type.DeclaredType;
import javax.lang.model.type.TypeKind;
import javax.lang.model.type.TypeMirror;
import javax.tools.JavaFileObject;
import javax.tools.SimpleJavaFileObject;
import javax.tools.ToolProvider;

/**
 * What can be seen of LANGUAGE.md in a source as the compiler reads it. A fault is told as the rule's
 * number, the line, and what is wrong there. That no index goes astray can't be seen so.
 */
final class Rules extends TreePathScanner<Void, Void> {
    private static final int MOST_LINES = 60;
    private static final int MOST_PARAMETERS = 7;
    private static final int MOST_CLASSES = 12;
    private static final int MOST_FIELDS = 20;
    private static final int MOST_DEEP = 8;
    private static final Set<String> LIBRARY_TYPES = Set.of("java.lang.String", "java.lang.StringBuilder",
        "java.lang.Integer", "java.util.ArrayList", "java.util.List", "java.util.Iterator", "java.lang.Iterable",
        "java.lang.Comparable");
    private static final Pattern LIBRARY_CALLS = Pattern.compile("java\\.lang\\.String\\.(length|charAt|isEmpty|equals|indexOf"
        + "|substring|toCharArray)|java\\.lang\\.StringBuilder\\.(append|charAt|setCharAt|setLength|deleteCharAt|reverse|length"
        + "|toString)|java\\.util\\.(ArrayList|List)\\.(add|get|set|remove|size|isEmpty|clear|of)"
        + "|java\\.lang\\.(Integer|Long|Math)\\.(compare|max|min|abs|bitCount|floorDiv|floorMod|signum|numberOfTrailingZeros"
        + "|numberOfLeadingZeros|highestOneBit|lowestOneBit)"
        + "|java\\.lang\\.System\\.arraycopy|java\\.util\\.Arrays\\.(copyOf|copyOfRange|fill)");

    private final Trees trees;
    private final CompilationUnitTree unit;
    private final List<String> faults = new ArrayList<>();
    private final Map<ExecutableElement, Set<ExecutableElement>> calls = new HashMap<>();
    private final Map<ExecutableElement, Long> lineOf = new HashMap<>();
    private int classes;

    private Rules(Trees trees, CompilationUnitTree unit) {
        this.trees = trees;
        this.unit = unit;
    }

    /** The faults of a source; of one that does not compile, that it does not. */
    static List<String> faultsOf(String source) throws IOException {
        JavaFileObject file = new SimpleJavaFileObject(URI.create("string:///VotesUntouched.java"), JavaFileObject.Kind.SOURCE) {
            @Override
            public CharSequence getCharContent(boolean ignored) {
                return source;
            }
        };
        List<String> errors = new ArrayList<>();
        JavacTask task = (JavacTask) ToolProvider.getSystemJavaCompiler().getTask(null, null, d -> {
            if (d.getKind() == javax.tools.Diagnostic.Kind.ERROR) {
                errors.add("0 does not compile: " + d);
            }
        }, List.of("-proc:none"), null, List.of(file));
        CompilationUnitTree unit = task.parse().iterator().next();
        task.analyze();
        if (!errors.isEmpty()) {
            return errors;
        }
        Rules rules = new Rules(Trees.instance(task), unit);
        rules.scan(unit, null);
        rules.wholeFile();
        return rules.faults;
    }

    private void say(int rule, Tree at, String what) {
        SourcePositions positions = trees.getSourcePositions();
        long line = unit.getLineMap().getLineNumber(Math.max(0, positions.getStartPosition(unit, at)));
        faults.add(rule + " line " + line + ": " + what);
    }

    private Element elementOf(Tree tree) {
        return trees.getElement(new TreePath(getCurrentPath(), tree));
    }

    private TypeMirror typeOf(Tree tree) {
        return trees.getTypeMirror(new TreePath(getCurrentPath(), tree));
    }

    private static boolean isOwn(Element e) {
        Element at = e;
        while (at != null && at.getEnclosingElement() != null && at.getEnclosingElement().getKind() != ElementKind.PACKAGE) {
            at = at.getEnclosingElement();
        }
        return at != null && at.getSimpleName().contentEquals("VotesUntouched");
    }

    private ExecutableElement method() {
        for (TreePath p = getCurrentPath(); p != null; p = p.getParentPath()) {
            if (p.getLeaf() instanceof MethodTree) {
                return (ExecutableElement) trees.getElement(p);
            }
        }
        return null;
    }

    private boolean isInConstructor() {
        ExecutableElement m = method();
        return m == null || m.getKind() == ElementKind.CONSTRUCTOR;
    }

    // ---- 1, 2, 11: the file, its classes, their members

    @Override
    public Void visitCompilationUnit(CompilationUnitTree tree, Void v) {
        if (tree.getPackageName() != null) {
            say(1, tree, "a package");
        }
        if (tree.getTypeDecls().size() != 1) {
            say(1, tree, "not one class in the file");
        }
        tree.getImports().forEach(i -> {
            if (i.isStatic() || !LIBRARY_TYPES.contains(i.getQualifiedIdentifier().toString())) {
                say(4, i, "an import: " + i);
            }
        });
        return super.visitCompilationUnit(tree, v);
    }

    @Override
    public Void visitClass(ClassTree tree, Void v) {
        TypeElement e = (TypeElement) trees.getElement(getCurrentPath());
        Set<Modifier> modifiers = e.getModifiers();
        classes++;
        boolean outer = getCurrentPath().getParentPath().getLeaf() instanceof CompilationUnitTree;
        if (outer) {
            if (!modifiers.equals(Set.of(Modifier.PUBLIC, Modifier.FINAL))) {
                say(1, tree, "the class is not public and final alone");
            }
        } else if (!(getCurrentPath().getParentPath().getLeaf() instanceof ClassTree)) {
            say(2, tree, "a local or anonymous class");
        } else {
            if (modifiers.contains(Modifier.PUBLIC) || modifiers.contains(Modifier.PROTECTED)) {
                say(1, tree, "a class inside that is seen outside");
            }
            if (!modifiers.contains(Modifier.STATIC)) {
                say(2, tree, "an inner class that is not static");
            }
        }
        int fields = 0;
        for (Tree member : tree.getMembers()) {
            if (member.getKind() == Tree.Kind.BLOCK) {
                say(5, member, "an initialiser block");
            }
            if (member instanceof VariableTree && !((VariableTree) member).getModifiers().getFlags().contains(Modifier.STATIC)) {
                fields++;
            }
        }
        if (fields > MOST_FIELDS) {
            say(11, tree, fields + " fields");
        }
        return super.visitClass(tree, v);
    }

    @Override
    public Void visitMethod(MethodTree tree, Void v) {
        ExecutableElement e = (ExecutableElement) trees.getElement(getCurrentPath());
        calls.putIfAbsent(e, new HashSet<>());
        if (trees.getSourcePositions().getStartPosition(unit, tree) >= 0 && tree.getBody() != null) {
            long from = unit.getLineMap().getLineNumber(trees.getSourcePositions().getStartPosition(unit, tree));
            long to = unit.getLineMap().getLineNumber(trees.getSourcePositions().getEndPosition(unit, tree));
            lineOf.put(e, from);
            if (to - from >= MOST_LINES) {
                say(11, tree, "a method of " + (to - from + 1) + " lines");
            }
        }
        if (tree.getParameters().size() > MOST_PARAMETERS) {
            say(11, tree, tree.getParameters().size() + " parameters");
        }
        if (!tree.getThrows().isEmpty()) {
            say(6, tree, "throws");
        }
        if (e.getKind() == ElementKind.METHOD && !isAllowed(e.getReturnType()) && e.getReturnType().getKind() != TypeKind.VOID) {
            say(3, tree, "answers " + e.getReturnType());
        }
        String name = e.getSimpleName().toString();
        if (Set.of("equals", "hashCode", "toString", "finalize", "clone").contains(name)) {
            say(6, tree, "a method " + name);
        }
        if (e.getModifiers().contains(Modifier.SYNCHRONIZED) || e.getModifiers().contains(Modifier.NATIVE)) {
            say(6, tree, "synchronized or native");
        }
        return super.visitMethod(tree, v);
    }

    // ---- 3, 5: types, fields

    private static boolean isNumber(TypeMirror t) {
        return t.getKind().isPrimitive() && t.getKind() != TypeKind.BOOLEAN;
    }

    private static boolean isAllowed(TypeMirror t) {
        if (t.getKind() == TypeKind.ARRAY) {
            TypeMirror of = ((ArrayType) t).getComponentType();
            return of.getKind() == TypeKind.ARRAY ? isNumber(((ArrayType) of).getComponentType()) : isAllowed(of);
        }
        if (t.getKind() == TypeKind.DECLARED) {
            TypeElement e = (TypeElement) ((DeclaredType) t).asElement();
            return isOwn(e) || LIBRARY_TYPES.contains(e.getQualifiedName().toString());
        }
        return t.getKind().isPrimitive();
    }

    @Override
    public Void visitVariable(VariableTree tree, Void v) {
        Element e = trees.getElement(getCurrentPath());
        TypeMirror type = e.asType();
        if (!isAllowed(type)) {
            say(3, tree, "of type " + type);
        }
        if (e.getKind() == ElementKind.FIELD && e.getModifiers().contains(Modifier.STATIC)) {
            if (!e.getModifiers().contains(Modifier.FINAL)) {
                say(5, tree, "static and not final");
            }
            boolean constant = ((VariableElement) e).getConstantValue() != null;
            boolean row = type.getKind() == TypeKind.ARRAY && isNumber(((ArrayType) type).getComponentType())
                && tree.getInitializer() instanceof NewArrayTree
                && ((NewArrayTree) tree.getInitializer()).getInitializers() != null;
            if (!constant && !row) {
                say(5, tree, "static and neither a constant nor a row written out");
            }
        }
        if (e.getKind() == ElementKind.FIELD && isOfFace(e) && !isFaceConstant(e)) {
            say(1, tree, "a field that is seen outside");
        }
        return super.visitVariable(tree, v);
    }

    private static boolean isOfFace(Element e) {
        return e.getEnclosingElement().getSimpleName().contentEquals("VotesUntouched")
            && !e.getModifiers().contains(Modifier.PRIVATE);
    }

    private static boolean isFaceConstant(Element e) {
        return e.getModifiers().containsAll(Set.of(Modifier.PUBLIC, Modifier.STATIC, Modifier.FINAL));
    }

    private void looksAtChange(Tree target) {
        if (target instanceof ArrayAccessTree) {
            Element row = elementOf(((ArrayAccessTree) target).getExpression());
            if (row != null && row.getModifiers().contains(Modifier.STATIC)) {
                say(5, target, "a constant row is changed");
            }
        }
    }

    @Override
    public Void visitAssignment(AssignmentTree tree, Void v) {
        looksAtChange(tree.getVariable());
        return super.visitAssignment(tree, v);
    }

    @Override
    public Void visitCompoundAssignment(CompoundAssignmentTree tree, Void v) {
        looksAtChange(tree.getVariable());
        if (tree.getKind() == Tree.Kind.PLUS_ASSIGNMENT && isText(tree.getVariable())) {
            say(10, tree, "texts joined by +");
        }
        if (tree.getKind() == Tree.Kind.DIVIDE_ASSIGNMENT || tree.getKind() == Tree.Kind.REMAINDER_ASSIGNMENT) {
            looksAtDivisor(tree, tree.getExpression());
        }
        return super.visitCompoundAssignment(tree, v);
    }

    @Override
    public Void visitUnary(UnaryTree tree, Void v) {
        looksAtChange(tree.getExpression());
        return super.visitUnary(tree, v);
    }

    // ---- 4, 12: the library, what is made

    @Override
    public Void visitMethodInvocation(MethodInvocationTree tree, Void v) {
        Element e = elementOf(tree.getMethodSelect());
        if (e instanceof ExecutableElement) {
            if (isOwn(e)) {
                ExecutableElement from = method();
                if (from != null) {
                    calls.computeIfAbsent(from, k -> new HashSet<>()).add((ExecutableElement) e);
                }
            } else if (e.getKind() == ElementKind.METHOD) {
                String name = ((TypeElement) e.getEnclosingElement()).getQualifiedName() + "." + e.getSimpleName();
                boolean cloneOfRow = name.endsWith(".clone");
                if (!cloneOfRow && !LIBRARY_CALLS.matcher(name).matches()) {
                    say(4, tree, "calls " + name);
                }
                if (name.endsWith(".arraycopy")) {
                    looksAtCopied(tree);
                }
            }
        }
        return super.visitMethodInvocation(tree, v);
    }

    private void looksAtCopied(MethodInvocationTree tree) {
        for (int i = 0; i <= 2; i += 2) {
            TypeMirror t = typeOf(tree.getArguments().get(i));
            if (t.getKind() != TypeKind.ARRAY || !isNumber(((ArrayType) t).getComponentType())) {
                say(4, tree, "copies what is no row of numbers");
            }
        }
        Element to = elementOf(tree.getArguments().get(2));
        if (to != null && to.getModifiers().contains(Modifier.STATIC)) {
            say(5, tree, "a constant row is changed");
        }
    }

    @Override
    public Void visitNewClass(NewClassTree tree, Void v) {
        if (tree.getClassBody() != null) {
            say(2, tree, "an anonymous class");
        } else if (!isAllowed(typeOf(tree))) {
            say(4, tree, "makes " + tree.getIdentifier());
        }
        if (!isInConstructor()) {
            say(12, tree, "an object is made by a call");
        }
        return super.visitNewClass(tree, v);
    }

    @Override
    public Void visitNewArray(NewArrayTree tree, Void v) {
        if (!isInConstructor()) {
            say(12, tree, "a row is made by a call");
        }
        return super.visitNewArray(tree, v);
    }

    // ---- 2, 6, 10: what is not written

    @Override
    public Void visitLambdaExpression(LambdaExpressionTree tree, Void v) {
        say(2, tree, "a lambda");
        return super.visitLambdaExpression(tree, v);
    }

    @Override
    public Void visitMemberReference(MemberReferenceTree tree, Void v) {
        say(2, tree, "a method reference");
        return super.visitMemberReference(tree, v);
    }

    @Override
    public Void visitThrow(ThrowTree tree, Void v) {
        say(6, tree, "throw");
        return super.visitThrow(tree, v);
    }

    @Override
    public Void visitTry(TryTree tree, Void v) {
        say(6, tree, "try");
        return super.visitTry(tree, v);
    }

    @Override
    public Void visitSynchronized(SynchronizedTree tree, Void v) {
        say(6, tree, "synchronized");
        return super.visitSynchronized(tree, v);
    }

    @Override
    public Void visitAssert(AssertTree tree, Void v) {
        say(6, tree, "assert");
        return super.visitAssert(tree, v);
    }

    @Override
    public Void visitSwitchExpression(SwitchExpressionTree tree, Void v) {
        say(10, tree, "a switch that is worth something");
        return super.visitSwitchExpression(tree, v);
    }

    @Override
    public Void visitCase(CaseTree tree, Void v) {
        if (tree.getCaseKind() == CaseTree.CaseKind.RULE) {
            say(10, tree, "a case with an arrow");
        }
        return super.visitCase(tree, v);
    }

    @Override
    public Void visitTypeCast(TypeCastTree tree, Void v) {
        if (!typeOf(tree.getType()).getKind().isPrimitive()) {
            say(6, tree, "a cast of an object: look at it by eye");
        }
        return super.visitTypeCast(tree, v);
    }

    @Override
    public Void visitBinary(BinaryTree tree, Void v) {
        Tree.Kind kind = tree.getKind();
        boolean text = isText(tree.getLeftOperand()) || isText(tree.getRightOperand());
        if (kind == Tree.Kind.PLUS && text) {
            say(10, tree, "texts joined by +");
        }
        if ((kind == Tree.Kind.EQUAL_TO || kind == Tree.Kind.NOT_EQUAL_TO) && text) {
            say(6, tree, "texts compared by their places");
        }
        if (kind == Tree.Kind.DIVIDE || kind == Tree.Kind.REMAINDER) {
            looksAtDivisor(tree, tree.getRightOperand());
        }
        return super.visitBinary(tree, v);
    }

    private boolean isText(Tree tree) {
        TypeMirror t = typeOf(tree);
        return t != null && (t.toString().equals("java.lang.String") || t.toString().equals("java.lang.Integer"));
    }

    // ---- 7: a divisor is a number that is not 0, or one that the method has looked at

    private void looksAtDivisor(Tree at, ExpressionTree divisor) {
        if (divisor instanceof LiteralTree) {
            if (String.valueOf(((LiteralTree) divisor).getValue()).equals("0")) {
                say(7, at, "divides by 0");
            }
            return;
        }
        Element e = elementOf(divisor);
        if (e instanceof VariableElement && ((VariableElement) e).getConstantValue() != null) {
            return;
        }
        String body = "";
        for (TreePath p = getCurrentPath(); p != null; p = p.getParentPath()) {
            if (p.getLeaf() instanceof MethodTree) {
                body = p.getLeaf().toString();
            }
        }
        String looked = "\\b" + Pattern.quote(divisor.toString()) + " (==|!=|>|<) [01]\\b";
        if (!Pattern.compile(looked).matcher(body).find()) {
            say(7, at, "a divisor that was not looked at: " + divisor);
        }
    }

    // ---- 9: loops with a counter

    private static Set<String> namesIn(Tree tree) {
        Set<String> names = new TreeSet<>();
        if (tree != null) {
            new com.sun.source.util.TreeScanner<Void, Void>() {
                @Override
                public Void visitIdentifier(IdentifierTree i, Void v) {
                    names.add(i.getName().toString());
                    return null;
                }
            }.scan(tree, null);
        }
        return names;
    }

    private static Set<String> changedIn(Iterable<? extends Tree> all) {
        Set<String> names = new TreeSet<>();
        new com.sun.source.util.TreeScanner<Void, Void>() {
            @Override
            public Void visitUnary(UnaryTree u, Void v) {
                String kind = u.getKind().name();
                if (kind.endsWith("INCREMENT") || kind.endsWith("DECREMENT")) {
                    names.add(u.getExpression().toString());
                }
                return super.visitUnary(u, v);
            }

            @Override
            public Void visitCompoundAssignment(CompoundAssignmentTree c, Void v) {
                names.add(c.getVariable().toString());
                return super.visitCompoundAssignment(c, v);
            }
        }.scan(all, null);
        return names;
    }

    private void looksAtLoop(Tree at, Tree condition, Iterable<? extends Tree> steps) {
        if (Collections.disjoint(namesIn(condition), changedIn(steps))) {
            say(9, at, "a loop without a counter against a bound");
        }
    }

    @Override
    public Void visitForLoop(ForLoopTree tree, Void v) {
        looksAtLoop(tree, tree.getCondition(), tree.getUpdate());
        return super.visitForLoop(tree, v);
    }

    @Override
    public Void visitWhileLoop(WhileLoopTree tree, Void v) {
        looksAtLoop(tree, tree.getCondition(), List.of(tree.getStatement()));
        return super.visitWhileLoop(tree, v);
    }

    @Override
    public Void visitDoWhileLoop(DoWhileLoopTree tree, Void v) {
        looksAtLoop(tree, tree.getCondition(), List.of(tree.getStatement()));
        return super.visitDoWhileLoop(tree, v);
    }

    // ---- 1, 8, 11: what is seen of all together

    private void wholeFile() {
        if (classes > MOST_CLASSES) {
            faults.add("11 line 1: " + classes + " classes");
        }
        Set<String> face = new TreeSet<>();
        for (ExecutableElement m : calls.keySet()) {
            if (m.getModifiers().contains(Modifier.PUBLIC) && isOfFace(m)) {
                face.add(m.getSimpleName().toString());
            }
        }
        Map<ExecutableElement, Set<ExecutableElement>> reach = new HashMap<>();
        for (ExecutableElement m : calls.keySet()) {
            reach.put(m, reachedFrom(m));
        }
        for (ExecutableElement m : calls.keySet()) {
            String at = "line " + lineOf.get(m) + ": " + m.getSimpleName();
            boolean open = m.getModifiers().contains(Modifier.PUBLIC);
            if (m.getKind() == ElementKind.METHOD && isOfFace(m) && !open) {
                faults.add("1 " + at + " is seen outside");
            }
            if (m.getKind() == ElementKind.METHOD && !(open && isOfFace(m)) && face.contains(m.getSimpleName().toString())) {
                faults.add("1 " + at + " has a name of the face");
            }
            if (reach.get(m).contains(m)) {
                looksAtRecursion(m, at);
            }
        }
        Map<ExecutableElement, Integer> depths = new HashMap<>();
        for (ExecutableElement m : calls.keySet()) {
            int depth = depthOf(m, reach, depths);
            if (depth > MOST_DEEP) {
                faults.add("11 line " + lineOf.get(m) + ": " + m.getSimpleName() + " goes " + depth + " deep");
            }
        }
    }

    private void looksAtRecursion(ExecutableElement m, String at) {
        if (!m.getModifiers().contains(Modifier.PRIVATE)) {
            faults.add("8 " + at + " calls itself and is not private");
        }
        boolean carried = false;
        for (VariableElement p : m.getParameters()) {
            carried |= p.asType().getKind() == TypeKind.INT && Set.of("depth", "open", "level").contains(p.getSimpleName().toString());
        }
        if (!carried) {
            faults.add("8 " + at + " calls itself and carries no depth");
        }
    }

    private Set<ExecutableElement> reachedFrom(ExecutableElement m) {
        Set<ExecutableElement> seen = new HashSet<>();
        List<ExecutableElement> left = new ArrayList<>(calls.get(m));
        while (!left.isEmpty()) {
            ExecutableElement next = left.remove(left.size() - 1);
            if (seen.add(next)) {
                left.addAll(calls.getOrDefault(next, Set.of()));
            }
        }
        return seen;
    }

    /** How many calls stand open below one and with it; those that call one another count once each. */
    private int depthOf(ExecutableElement m, Map<ExecutableElement, Set<ExecutableElement>> reach, Map<ExecutableElement, Integer> known) {
        if (known.containsKey(m)) {
            return known.get(m);
        }
        Set<ExecutableElement> ring = new HashSet<>(Set.of(m));
        for (ExecutableElement other : reach.getOrDefault(m, Set.of())) {
            if (reach.getOrDefault(other, Set.of()).contains(m)) {
                ring.add(other);
            }
        }
        int below = 0;
        for (ExecutableElement member : ring) {
            for (ExecutableElement next : calls.getOrDefault(member, Set.of())) {
                if (!ring.contains(next)) {
                    below = Math.max(below, depthOf(next, reach, known));
                }
            }
        }
        for (ExecutableElement member : ring) {
            known.put(member, ring.size() + below);
        }
        return ring.size() + below;
    }
}
