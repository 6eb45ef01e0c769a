import com.sun.source.tree.*;
import com.sun.source.util.JavacTask;
import com.sun.source.util.TreePath;
import com.sun.source.util.TreePathScanner;
import com.sun.source.util.TreeScanner;
import com.sun.source.util.Trees;
import java.io.IOException;
import java.io.UncheckedIOException;
import java.net.URI;
import java.util.ArrayList;
import java.util.HashMap;
import java.util.HashSet;
import java.util.LinkedHashMap;
import java.util.List;
import java.util.Map;
import java.util.Set;
import javax.lang.model.element.Element;
import javax.lang.model.element.ElementKind;
import javax.lang.model.element.Modifier;
import javax.lang.model.element.VariableElement;
import javax.lang.model.type.ArrayType;
import javax.lang.model.type.TypeKind;
import javax.lang.model.type.TypeMirror;
import javax.tools.DiagnosticCollector;
import javax.tools.JavaCompiler;
import javax.tools.JavaFileObject;
import javax.tools.SimpleJavaFileObject;
import javax.tools.ToolProvider;

// Finds what in a source breaks LANGUAGE.md. Rule 7 can't be read off a source; rules 9 and 11 need no
// look of their own, since rule 3 leaves nothing to reach the outside with. Of rule 8 it is stricter than
// asked: it takes no loop but the plainest.
final class Language extends TreePathScanner<Void, Void> {
    private static final int MOST_PARAMETERS = 7;
    private static final int MOST_LINES = 60;
    private static final int MOST_CALLS_DEEP = 6;
    private static final int MOST_FIELDS = 40;

    private static final Set<TypeKind> NUMBERS = Set.of(
        TypeKind.INT, TypeKind.LONG, TypeKind.SHORT, TypeKind.BYTE, TypeKind.CHAR, TypeKind.BOOLEAN);
    private static final Set<Tree.Kind> LITERALS = Set.of(
        Tree.Kind.INT_LITERAL, Tree.Kind.LONG_LITERAL, Tree.Kind.CHAR_LITERAL, Tree.Kind.BOOLEAN_LITERAL);
    private static final Set<Tree.Kind> BRANCHES = Set.of(
        Tree.Kind.FOR_LOOP, Tree.Kind.ENHANCED_FOR_LOOP, Tree.Kind.WHILE_LOOP, Tree.Kind.DO_WHILE_LOOP,
        Tree.Kind.IF, Tree.Kind.CONDITIONAL_EXPRESSION, Tree.Kind.SWITCH, Tree.Kind.SWITCH_EXPRESSION);
    private static final Set<Tree.Kind> LOOPS = Set.of(
        Tree.Kind.FOR_LOOP, Tree.Kind.ENHANCED_FOR_LOOP, Tree.Kind.WHILE_LOOP, Tree.Kind.DO_WHILE_LOOP);

    private final List<String> faults = new ArrayList<>();
    private final Map<Element, Set<Element>> calls = new LinkedHashMap<>();
    private final Set<String> publicMethods = new HashSet<>();
    private final Set<String> privateMethods = new HashSet<>();
    private final Trees trees;
    private final CompilationUnitTree unit;

    private Element owner = null;
    private int objectFields = 0;
    private boolean hasCalledFromConstructor = false;

    private Language(Trees trees, CompilationUnitTree unit) {
        this.trees = trees;
        this.unit = unit;
    }

    static List<String> faults(String source) {
        JavaFileObject file = new SimpleJavaFileObject(URI.create("string:///GomoryBranch.java"), JavaFileObject.Kind.SOURCE) {
            @Override
            public CharSequence getCharContent(boolean ignoreEncodingErrors) {
                return source;
            }
        };
        JavaCompiler compiler = ToolProvider.getSystemJavaCompiler();
        DiagnosticCollector<JavaFileObject> told = new DiagnosticCollector<>();
        List<String> options = List.of("--release", "17", "-proc:none");
        JavacTask task = (JavacTask) compiler.getTask(null, null, told, options, null, List.of(file));
        try {
            CompilationUnitTree unit = task.parse().iterator().next();
            task.analyze();
            if (!told.getDiagnostics().isEmpty()) {
                return List.of("does not compile: " + told.getDiagnostics());
            }
            Language language = new Language(Trees.instance(task), unit);
            language.look();
            return language.faults;
        } catch (IOException e) {
            throw new UncheckedIOException(e);
        }
    }

    private void look() {
        check(1, "a package line", unit.getPackage() == null);
        check(1, "not one class alone", unit.getTypeDecls().size() == 1);
        check(3, "an import", unit.getImports().isEmpty());
        scan(unit, null);
        publicMethods.retainAll(privateMethods);
        check(1, "a private method with a public one's name " + publicMethods, publicMethods.isEmpty());
        check(10, objectFields + " fields", objectFields <= MOST_FIELDS);
        Map<Element, Integer> depths = new HashMap<>();
        for (Element method : calls.keySet()) {
            check(10, method + " leads to calls more than " + MOST_CALLS_DEEP + " deep",
                depth(method, new HashSet<>(), depths) <= MOST_CALLS_DEEP);
        }
    }

    private void check(int rule, String fault, boolean isKept) {
        if (!isKept) {
            faults.add("rule " + rule + ": " + fault);
        }
    }

    private void breaks(int rule, Tree tree) {
        long start = trees.getSourcePositions().getStartPosition(unit, tree);
        faults.add("rule " + rule + ": line " + unit.getLineMap().getLineNumber(start) + ": " + tree);
    }

    private int depth(Element method, Set<Element> above, Map<Element, Integer> depths) {
        if (!above.add(method)) {
            check(8, method + " calls itself, at once or through others", false);
            return 0;
        }
        Integer known = depths.get(method);
        int deepest = 0;
        if (known == null) {
            for (Element called : calls.getOrDefault(method, Set.of())) {
                deepest = Math.max(deepest, depth(called, above, depths));
            }
            depths.put(method, deepest + 1);
        }
        above.remove(method);
        return depths.get(method);
    }

    private Element element(Tree tree) {
        return trees.getElement(new TreePath(getCurrentPath(), tree));
    }

    private TypeMirror type(Tree tree) {
        return trees.getTypeMirror(new TreePath(getCurrentPath(), tree));
    }

    private boolean isArray(Tree tree) {
        TypeMirror type = type(tree);
        return type != null && type.getKind() == TypeKind.ARRAY;
    }

    private static boolean isAllowed(TypeMirror type) {
        TypeMirror plain = type instanceof ArrayType array ? array.getComponentType() : type;
        return NUMBERS.contains(plain.getKind());
    }

    private boolean isInside(Set<Tree.Kind> kinds) {
        for (TreePath path = getCurrentPath().getParentPath(); path != null; path = path.getParentPath()) {
            if (kinds.contains(path.getLeaf().getKind())) {
                return true;
            }
        }
        return false;
    }

    private boolean isInConstructor() {
        return owner != null && owner.getKind() == ElementKind.CONSTRUCTOR;
    }

    // Attribution writes the call super() into a constructor; the source does not have it.
    private static boolean isImplicit(MethodInvocationTree call) {
        return call.getMethodSelect().toString().equals("super") && call.getArguments().isEmpty();
    }

    private static boolean isOpenOrClosed(Set<Modifier> modifiers) {
        return modifiers.contains(Modifier.PUBLIC) || modifiers.contains(Modifier.PRIVATE);
    }

    @Override
    public Void visitClass(ClassTree tree, Void none) {
        Set<Modifier> modifiers = tree.getModifiers().getFlags();
        boolean isOutermost = getCurrentPath().getParentPath().getLeaf() == unit;
        if (!isOutermost || tree.getKind() != Tree.Kind.CLASS || !modifiers.equals(Set.of(Modifier.PUBLIC, Modifier.FINAL))) {
            breaks(1, tree);
        }
        if (tree.getExtendsClause() != null || !tree.getImplementsClause().isEmpty() || !tree.getTypeParameters().isEmpty()) {
            breaks(3, tree);
        }
        return super.visitClass(tree, none);
    }

    @Override
    public Void visitMethod(MethodTree tree, Void none) {
        owner = trees.getElement(getCurrentPath());
        calls.putIfAbsent(owner, new HashSet<>());
        Set<Modifier> modifiers = tree.getModifiers().getFlags();
        (modifiers.contains(Modifier.PUBLIC) ? publicMethods : privateMethods).add(tree.getName().toString());
        if (!isOpenOrClosed(modifiers) || isInConstructor() && !modifiers.contains(Modifier.PUBLIC)) {
            breaks(1, tree);
        }
        if (modifiers.contains(Modifier.SYNCHRONIZED) || !tree.getThrows().isEmpty()) {
            breaks(6, tree);
        }
        if (tree.getParameters().size() > MOST_PARAMETERS || lines(tree) > MOST_LINES) {
            breaks(10, tree);
        }
        lookAtReturnType(tree.getReturnType());
        super.visitMethod(tree, none);
        owner = null;
        return null;
    }

    private void lookAtReturnType(Tree tree) {
        TypeMirror type = tree == null ? null : type(tree);
        if (type != null && type.getKind() == TypeKind.ARRAY) {
            breaks(4, tree);
        }
        if (type != null && type.getKind() != TypeKind.VOID && !isAllowed(type)) {
            breaks(2, tree);
        }
    }

    private long lines(Tree tree) {
        LineMap map = unit.getLineMap();
        long first = map.getLineNumber(trees.getSourcePositions().getStartPosition(unit, tree));
        return map.getLineNumber(trees.getSourcePositions().getEndPosition(unit, tree)) - first + 1;
    }

    @Override
    public Void visitVariable(VariableTree tree, Void none) {
        VariableElement variable = (VariableElement) trees.getElement(getCurrentPath());
        if (!isAllowed(variable.asType())) {
            breaks(2, tree);
        }
        if (variable.getKind() == ElementKind.FIELD) {
            lookAtField(tree, variable);
        }
        return super.visitVariable(tree, none);
    }

    private void lookAtField(VariableTree tree, VariableElement field) {
        Set<Modifier> modifiers = field.getModifiers();
        boolean isConstant = field.getConstantValue() != null && modifiers.contains(Modifier.STATIC);
        if (!isOpenOrClosed(modifiers) || modifiers.contains(Modifier.PUBLIC) && !isConstant) {
            breaks(1, tree);
        }
        if (!modifiers.contains(Modifier.STATIC)) {
            objectFields++;
            return;
        }
        TypeKind kind = field.asType().getKind();
        if (!isConstant || kind != TypeKind.INT && kind != TypeKind.LONG) {
            breaks(5, tree);
        }
    }

    @Override
    public Void visitBlock(BlockTree tree, Void none) {
        if (tree.isStatic()) {
            breaks(5, tree);
        }
        return super.visitBlock(tree, none);
    }

    @Override
    public Void visitLiteral(LiteralTree tree, Void none) {
        if (tree.getKind() == Tree.Kind.NULL_LITERAL) {
            breaks(4, tree);
        } else if (!LITERALS.contains(tree.getKind())) {
            breaks(2, tree);
        }
        return null;
    }

    @Override
    public Void visitIdentifier(IdentifierTree tree, Void none) {
        lookAtName(tree);
        return null;
    }

    @Override
    public Void visitMemberSelect(MemberSelectTree tree, Void none) {
        if (!(isArray(tree.getExpression()) && tree.getIdentifier().contentEquals("length"))) {
            lookAtName(tree);
        }
        return super.visitMemberSelect(tree, none);
    }

    private void lookAtName(Tree tree) {
        Element named = trees.getElement(getCurrentPath());
        if (named == null || isImplicitSuper(tree)) {
            return;
        }
        Element holder = named.getKind().isClass() || named.getKind().isInterface() ? named : named.getEnclosingElement();
        while (holder.getKind() == ElementKind.METHOD || holder.getKind() == ElementKind.CONSTRUCTOR) {
            holder = holder.getEnclosingElement();
        }
        if (named.getKind() == ElementKind.PACKAGE || !holder.getSimpleName().contentEquals("GomoryBranch")) {
            breaks(3, tree);
        }
    }

    private boolean isImplicitSuper(Tree tree) {
        return getCurrentPath().getParentPath().getLeaf() instanceof MethodInvocationTree call
            && call.getMethodSelect() == tree && isImplicit(call);
    }

    @Override
    public Void visitMethodInvocation(MethodInvocationTree tree, Void none) {
        if (isImplicit(tree)) {
            return super.visitMethodInvocation(tree, none);
        }
        Element called = trees.getElement(getCurrentPath());
        if (owner != null) {
            calls.get(owner).add(called);
        }
        for (ExpressionTree argument : tree.getArguments()) {
            if (holdsCall(argument)) {
                breaks(10, tree);
            }
            if (isInConstructor() && isArray(argument)) {
                breaks(4, tree);
            }
        }
        hasCalledFromConstructor |= isInConstructor() && !called.getModifiers().contains(Modifier.STATIC);
        return super.visitMethodInvocation(tree, none);
    }

    private static boolean holdsCall(Tree tree) {
        boolean[] found = {false};
        new TreeScanner<Void, Void>() {
            @Override
            public Void visitMethodInvocation(MethodInvocationTree call, Void none) {
                found[0] = true;
                return null;
            }
        }.scan(tree, null);
        return found[0];
    }

    @Override
    public Void visitNewClass(NewClassTree tree, Void none) {
        breaks(4, tree);
        return super.visitNewClass(tree, none);
    }

    @Override
    public Void visitNewArray(NewArrayTree tree, Void none) {
        boolean isAtStart = owner == null || isInConstructor() && !hasCalledFromConstructor;
        boolean hasLength = tree.getDimensions().size() == 1 && isFixedLength(tree.getDimensions().get(0));
        if (!isAtStart || isInside(BRANCHES) || !hasLength) {
            breaks(4, tree);
        }
        return super.visitNewArray(tree, none);
    }

    private boolean isFixedLength(ExpressionTree length) {
        if (length instanceof LiteralTree literal) {
            return literal.getValue() instanceof Integer number && number >= 1;
        }
        return element(length) instanceof VariableElement constant
            && constant.getConstantValue() instanceof Integer number && number >= 1;
    }

    @Override
    public Void visitAssignment(AssignmentTree tree, Void none) {
        if (isArray(tree.getVariable())) {
            boolean isField = element(tree.getVariable()).getKind() == ElementKind.FIELD;
            if (isField ? !isInConstructor() : isInside(LOOPS)) {
                breaks(4, tree);
            }
        }
        return super.visitAssignment(tree, none);
    }

    @Override
    public Void visitBinary(BinaryTree tree, Void none) {
        if (isArray(tree.getLeftOperand()) || isArray(tree.getRightOperand())) {
            breaks(4, tree);
        }
        return super.visitBinary(tree, none);
    }

    @Override
    public Void visitTypeCast(TypeCastTree tree, Void none) {
        TypeMirror type = type(tree.getType());
        if (!type.getKind().isPrimitive()) {
            breaks(6, tree);
        } else if (!isAllowed(type)) {
            breaks(2, tree);
        }
        return super.visitTypeCast(tree, none);
    }

    @Override
    public Void visitThrow(ThrowTree tree, Void none) {
        breaks(6, tree);
        return super.visitThrow(tree, none);
    }

    @Override
    public Void visitTry(TryTree tree, Void none) {
        breaks(6, tree);
        return super.visitTry(tree, none);
    }

    @Override
    public Void visitSynchronized(SynchronizedTree tree, Void none) {
        breaks(6, tree);
        return super.visitSynchronized(tree, none);
    }

    @Override
    public Void visitAssert(AssertTree tree, Void none) {
        breaks(6, tree);
        return super.visitAssert(tree, none);
    }

    @Override
    public Void visitInstanceOf(InstanceOfTree tree, Void none) {
        breaks(6, tree);
        return super.visitInstanceOf(tree, none);
    }

    @Override
    public Void visitLambdaExpression(LambdaExpressionTree tree, Void none) {
        breaks(6, tree);
        return super.visitLambdaExpression(tree, none);
    }

    @Override
    public Void visitMemberReference(MemberReferenceTree tree, Void none) {
        breaks(6, tree);
        return super.visitMemberReference(tree, none);
    }

    @Override
    public Void visitForLoop(ForLoopTree tree, Void none) {
        if (!CountingLoop.is(tree)) {
            breaks(8, tree);
        }
        return super.visitForLoop(tree, none);
    }

    @Override
    public Void visitEnhancedForLoop(EnhancedForLoopTree tree, Void none) {
        breaks(8, tree);
        return super.visitEnhancedForLoop(tree, none);
    }

    @Override
    public Void visitWhileLoop(WhileLoopTree tree, Void none) {
        breaks(8, tree);
        return super.visitWhileLoop(tree, none);
    }

    @Override
    public Void visitDoWhileLoop(DoWhileLoopTree tree, Void none) {
        breaks(8, tree);
        return super.visitDoWhileLoop(tree, none);
    }
}
