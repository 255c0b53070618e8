import com.sun.source.tree.ArrayAccessTree;
import com.sun.source.tree.ArrayTypeTree;
import com.sun.source.tree.AssertTree;
import com.sun.source.tree.AssignmentTree;
import com.sun.source.tree.BinaryTree;
import com.sun.source.tree.BlockTree;
import com.sun.source.tree.ClassTree;
import com.sun.source.tree.CompilationUnitTree;
import com.sun.source.tree.CompoundAssignmentTree;
import com.sun.source.tree.DoWhileLoopTree;
import com.sun.source.tree.ExpressionTree;
import com.sun.source.tree.ForLoopTree;
import com.sun.source.tree.IdentifierTree;
import com.sun.source.tree.InstanceOfTree;
import com.sun.source.tree.LambdaExpressionTree;
import com.sun.source.tree.LiteralTree;
import com.sun.source.tree.MemberReferenceTree;
import com.sun.source.tree.MemberSelectTree;
import com.sun.source.tree.MethodInvocationTree;
import com.sun.source.tree.MethodTree;
import com.sun.source.tree.NewArrayTree;
import com.sun.source.tree.NewClassTree;
import com.sun.source.tree.PrimitiveTypeTree;
import com.sun.source.tree.SynchronizedTree;
import com.sun.source.tree.ThrowTree;
import com.sun.source.tree.Tree;
import com.sun.source.tree.TryTree;
import com.sun.source.tree.TypeCastTree;
import com.sun.source.tree.UnaryTree;
import com.sun.source.tree.VariableTree;
import com.sun.source.tree.WhileLoopTree;
import com.sun.source.util.JavacTask;
import com.sun.source.util.TreePath;
import com.sun.source.util.TreePathScanner;
import com.sun.source.util.TreeScanner;
import com.sun.source.util.Trees;
import java.io.IOException;
import java.net.URI;
import java.util.ArrayList;
import java.util.HashSet;
import java.util.List;
import java.util.Map;
import java.util.Set;
import java.util.TreeMap;
import javax.lang.model.element.Element;
import javax.lang.model.element.Modifier;
import javax.lang.model.element.VariableElement;
import javax.lang.model.type.ArrayType;
import javax.lang.model.type.TypeKind;
import javax.lang.model.type.TypeMirror;
import javax.tools.Diagnostic;
import javax.tools.DiagnosticCollector;
import javax.tools.JavaCompiler;
import javax.tools.JavaFileObject;
import javax.tools.SimpleJavaFileObject;
import javax.tools.ToolProvider;

/**
 * Tells where the text of a class leaves ../shared/LANGUAGE.md. Where a rule can't be seen from the
 * text alone, a narrower one stands here: arrays are made in fields' initialisers, every loop is a
 * counting "for", a divisor is a number that is not 0.
 */
final class Language extends TreePathScanner<Void, Void> {
    private static final int MOST_PARAMETERS = 7;
    private static final int MOST_LINES = 60;
    private static final int MOST_DEEP = 6;
    private static final int MOST_FIELDS = 40;
    private static final Set<TypeKind> NUMBERS = Set.of(TypeKind.INT, TypeKind.LONG, TypeKind.SHORT,
            TypeKind.BYTE, TypeKind.CHAR, TypeKind.BOOLEAN);

    private final List<String> faults = new ArrayList<>();
    private final Map<String, Set<String>> calls = new TreeMap<>();
    private final Set<String> publicNames = new HashSet<>();
    private final Set<String> privateNames = new HashSet<>();
    private final CompilationUnitTree unit;
    private final Trees trees;

    private Language(CompilationUnitTree unit, Trees trees) {
        this.unit = unit;
        this.trees = trees;
    }

    /** Each fault begins with "rule" and the rule's number. */
    static List<String> faults(String text) throws IOException {
        JavaCompiler compiler = ToolProvider.getSystemJavaCompiler();
        DiagnosticCollector<JavaFileObject> told = new DiagnosticCollector<>();
        List<String> options = List.of("-proc:none", "--release", "17");
        JavacTask task = (JavacTask) compiler.getTask(null, null, told, options, null, List.of(file(text)));
        CompilationUnitTree unit = task.parse().iterator().next();
        task.analyze();
        Language language = new Language(unit, Trees.instance(task));
        for (Diagnostic<?> diagnostic : told.getDiagnostics()) {
            language.faults.add("it doesn't compile: " + diagnostic);
        }
        language.scan(unit, null);
        language.lookAtNames();
        language.lookAtCalls();
        return language.faults;
    }

    private static JavaFileObject file(String text) {
        URI name = URI.create("string:///IfConverter.java");
        return new SimpleJavaFileObject(name, JavaFileObject.Kind.SOURCE) {
            @Override
            public CharSequence getCharContent(boolean ignoreEncodingErrors) {
                return text;
            }
        };
    }

    private void say(int rule, Tree at, String what) {
        faults.add("rule " + rule + ", line " + lineOf(start(at)) + ": " + what);
    }

    private void sayIf(boolean fault, int rule, Tree at, String what) {
        if (fault) {
            say(rule, at, what);
        }
    }

    private long start(Tree tree) {
        return trees.getSourcePositions().getStartPosition(unit, tree);
    }

    private long end(Tree tree) {
        return trees.getSourcePositions().getEndPosition(unit, tree);
    }

    private long lineOf(long position) {
        return position < 0 ? 0 : unit.getLineMap().getLineNumber(position);
    }

    private Tree parent() {
        return getCurrentPath().getParentPath().getLeaf();
    }

    private boolean isField() {
        return parent() instanceof ClassTree;
    }

    private Element elementOf(Tree tree) {
        return trees.getElement(new TreePath(getCurrentPath(), tree));
    }

    private boolean isArray(Tree tree) {
        TypeMirror type = trees.getTypeMirror(new TreePath(getCurrentPath(), tree));
        return type != null && type.getKind() == TypeKind.ARRAY;
    }

    /** The value of a literal or a constant, or null. */
    private Object constantOf(ExpressionTree tree) {
        if (tree instanceof LiteralTree) {
            return ((LiteralTree) tree).getValue();
        }
        Element element = elementOf(tree);
        return element instanceof VariableElement ? ((VariableElement) element).getConstantValue() : null;
    }

    // The file and the class.

    @Override
    public Void visitCompilationUnit(CompilationUnitTree node, Void none) {
        sayIf(node.getPackage() != null, 1, node, "a package line");
        sayIf(node.getTypeDecls().size() != 1, 1, node, "not one class in the file");
        sayIf(!node.getImports().isEmpty(), 3, node, "an import");
        return super.visitCompilationUnit(node, none);
    }

    @Override
    public Void visitClass(ClassTree node, Void none) {
        Set<Modifier> flags = node.getModifiers().getFlags();
        sayIf(!(parent() instanceof CompilationUnitTree), 1, node, "a nested class");
        sayIf(node.getKind() != Tree.Kind.CLASS, 1, node, "not a class");
        sayIf(!flags.equals(Set.of(Modifier.PUBLIC, Modifier.FINAL)), 1, node, "not public and final");
        sayIf(node.getExtendsClause() != null, 1, node, "another superclass");
        sayIf(!node.getImplementsClause().isEmpty(), 1, node, "an interface");
        long fields = node.getMembers().stream().filter(this::isVariableField).count();
        sayIf(fields > MOST_FIELDS, 10, node, fields + " fields");
        return super.visitClass(node, none);
    }

    private boolean isVariableField(Tree member) {
        return member instanceof VariableTree
                && !((VariableTree) member).getModifiers().getFlags().contains(Modifier.STATIC);
    }

    @Override
    public Void visitBlock(BlockTree node, Void none) {
        sayIf(node.isStatic(), 5, node, "a static initialiser");
        return super.visitBlock(node, none);
    }

    // Fields, variables and types.

    @Override
    public Void visitVariable(VariableTree node, Void none) {
        Element element = trees.getElement(getCurrentPath());
        sayIf(!isAllowed(element.asType()), 2, node, "the type of " + node.getName());
        if (isField()) {
            lookAtField(node, node.getModifiers().getFlags(), (VariableElement) element);
        }
        return super.visitVariable(node, none);
    }

    private static boolean isAllowed(TypeMirror type) {
        boolean array = type.getKind() == TypeKind.ARRAY;
        return NUMBERS.contains(array ? ((ArrayType) type).getComponentType().getKind() : type.getKind());
    }

    private void lookAtField(VariableTree node, Set<Modifier> flags, VariableElement field) {
        boolean constant = field.getConstantValue() != null && flags.contains(Modifier.FINAL);
        boolean whole = Set.of(TypeKind.INT, TypeKind.LONG).contains(field.asType().getKind());
        boolean fixed = flags.contains(Modifier.STATIC);
        boolean hidden = flags.contains(Modifier.PRIVATE);
        boolean shown = flags.contains(Modifier.PUBLIC) && fixed && constant;
        sayIf(!hidden && !shown, 1, node, "a field that others can see");
        sayIf(fixed && !(constant && whole), 5, node, "a static field that is no constant");
        sayIf(flags.contains(Modifier.VOLATILE), 11, node, "a field for threads");
    }

    @Override
    public Void visitPrimitiveType(PrimitiveTypeTree node, Void none) {
        TypeKind kind = node.getPrimitiveTypeKind();
        sayIf(kind != TypeKind.VOID && !NUMBERS.contains(kind), 2, node, kind + "");
        return super.visitPrimitiveType(node, none);
    }

    @Override
    public Void visitArrayType(ArrayTypeTree node, Void none) {
        sayIf(node.getType() instanceof ArrayTypeTree, 2, node, "an array of arrays");
        return super.visitArrayType(node, none);
    }

    @Override
    public Void visitLiteral(LiteralTree node, Void none) {
        Tree.Kind kind = node.getKind();
        sayIf(kind == Tree.Kind.NULL_LITERAL, 4, node, "null");
        sayIf(Set.of(Tree.Kind.STRING_LITERAL, Tree.Kind.FLOAT_LITERAL, Tree.Kind.DOUBLE_LITERAL)
                .contains(kind), 2, node, kind + "");
        return super.visitLiteral(node, none);
    }

    @Override
    public Void visitTypeCast(TypeCastTree node, Void none) {
        sayIf(!(node.getType() instanceof PrimitiveTypeTree), 6, node, "a cast of a reference");
        return super.visitTypeCast(node, none);
    }

    // Names of other classes.

    @Override
    public Void visitIdentifier(IdentifierTree node, Void none) {
        lookAtName(node);
        return super.visitIdentifier(node, none);
    }

    @Override
    public Void visitMemberSelect(MemberSelectTree node, Void none) {
        lookAtName(node);
        return super.visitMemberSelect(node, none);
    }

    private void lookAtName(Tree node) {
        Element element = trees.getElement(getCurrentPath());
        boolean type = element != null && (element.getKind().isClass() || element.getKind().isInterface());
        sayIf(type && !element.getSimpleName().contentEquals("IfConverter"), 3, node, "the class " + element);
        sayIf(element == null, 3, node, "the name " + node);
    }

    // Arrays and objects.

    @Override
    public Void visitNewClass(NewClassTree node, Void none) {
        say(4, node, "an object is made");
        return super.visitNewClass(node, none);
    }

    @Override
    public Void visitNewArray(NewArrayTree node, Void none) {
        boolean ofField = parent() instanceof VariableTree
                && getCurrentPath().getParentPath().getParentPath().getLeaf() instanceof ClassTree;
        sayIf(!ofField, 4, node, "an array is made, and not as a field's initialiser");
        Object length = node.getDimensions().size() == 1 ? constantOf(node.getDimensions().get(0)) : null;
        sayIf(!(length instanceof Integer && (Integer) length >= 1), 4, node, "an array's length");
        return super.visitNewArray(node, none);
    }

    @Override
    public Void visitAssignment(AssignmentTree node, Void none) {
        sayIf(isArray(node.getVariable()), 4, node, "an array is assigned to " + node.getVariable());
        return super.visitAssignment(node, none);
    }

    @Override
    public Void visitBinary(BinaryTree node, Void none) {
        boolean comparison = node.getKind() == Tree.Kind.EQUAL_TO || node.getKind() == Tree.Kind.NOT_EQUAL_TO;
        boolean arrays = isArray(node.getLeftOperand()) || isArray(node.getRightOperand());
        sayIf(comparison && arrays, 4, node, "an array is compared");
        boolean division = node.getKind() == Tree.Kind.DIVIDE || node.getKind() == Tree.Kind.REMAINDER;
        sayIf(division && !isSafeDivisor(node.getRightOperand()), 7, node, "a divisor that can be 0");
        return super.visitBinary(node, none);
    }

    @Override
    public Void visitCompoundAssignment(CompoundAssignmentTree node, Void none) {
        boolean division = node.getKind() == Tree.Kind.DIVIDE_ASSIGNMENT
                || node.getKind() == Tree.Kind.REMAINDER_ASSIGNMENT;
        sayIf(division && !isSafeDivisor(node.getExpression()), 7, node, "a divisor that can be 0");
        return super.visitCompoundAssignment(node, none);
    }

    private boolean isSafeDivisor(ExpressionTree divisor) {
        Object value = constantOf(divisor);
        return value instanceof Number && ((Number) value).longValue() != 0;
    }

    // What is left out.

    @Override
    public Void visitThrow(ThrowTree node, Void none) {
        say(6, node, "throw");
        return super.visitThrow(node, none);
    }

    @Override
    public Void visitTry(TryTree node, Void none) {
        say(6, node, "try");
        return super.visitTry(node, none);
    }

    @Override
    public Void visitSynchronized(SynchronizedTree node, Void none) {
        say(6, node, "synchronized");
        return super.visitSynchronized(node, none);
    }

    @Override
    public Void visitAssert(AssertTree node, Void none) {
        say(6, node, "assert");
        return super.visitAssert(node, none);
    }

    @Override
    public Void visitInstanceOf(InstanceOfTree node, Void none) {
        say(6, node, "instanceof");
        return super.visitInstanceOf(node, none);
    }

    @Override
    public Void visitLambdaExpression(LambdaExpressionTree node, Void none) {
        say(6, node, "a lambda");
        return super.visitLambdaExpression(node, none);
    }

    @Override
    public Void visitMemberReference(MemberReferenceTree node, Void none) {
        say(6, node, "a method reference");
        return super.visitMemberReference(node, none);
    }

    // Loops.

    @Override
    public Void visitWhileLoop(WhileLoopTree node, Void none) {
        say(8, node, "a loop that is no counting for");
        return super.visitWhileLoop(node, none);
    }

    @Override
    public Void visitDoWhileLoop(DoWhileLoopTree node, Void none) {
        say(8, node, "a loop that is no counting for");
        return super.visitDoWhileLoop(node, none);
    }

    @Override
    public Void visitForLoop(ForLoopTree node, Void none) {
        sayIf(!isCounting(node), 8, node, "a loop that is no counting for");
        return super.visitForLoop(node, none);
    }

    /** One counter, a bound on the side that it moves to by one, and a body that sets neither. */
    private boolean isCounting(ForLoopTree loop) {
        boolean plain = loop.getInitializer().size() == 1 && loop.getUpdate().size() == 1
                && loop.getInitializer().get(0) instanceof VariableTree
                && loop.getCondition() instanceof BinaryTree;
        if (!plain) {
            return false;
        }
        String counter = ((VariableTree) loop.getInitializer().get(0)).getName().toString();
        BinaryTree test = (BinaryTree) loop.getCondition();
        String update = loop.getUpdate().get(0).getExpression().toString();
        Tree.Kind kind = test.getKind();
        boolean rises = kind == Tree.Kind.LESS_THAN && isStep(update, counter, "++");
        boolean falls = kind == Tree.Kind.GREATER_THAN_EQUAL && isStep(update, counter, "--");
        Set<String> bound = namesIn(test);
        bound.retainAll(namesSetIn(loop.getStatement()));
        return (rises || falls) && test.getLeftOperand().toString().equals(counter) && bound.isEmpty();
    }

    private static boolean isStep(String update, String counter, String sign) {
        return update.equals(counter + sign) || update.equals(sign + counter);
    }

    private static Set<String> namesIn(Tree tree) {
        Set<String> names = new HashSet<>();
        new TreeScanner<Void, Void>() {
            @Override
            public Void visitIdentifier(IdentifierTree node, Void none) {
                names.add(node.getName().toString());
                return null;
            }
        }.scan(tree, null);
        return names;
    }

    private static Set<String> namesSetIn(Tree tree) {
        Set<String> names = new HashSet<>();
        new TreeScanner<Void, Void>() {
            @Override
            public Void visitAssignment(AssignmentTree node, Void none) {
                names.add(baseOf(node.getVariable()));
                return super.visitAssignment(node, none);
            }

            @Override
            public Void visitCompoundAssignment(CompoundAssignmentTree node, Void none) {
                names.add(baseOf(node.getVariable()));
                return super.visitCompoundAssignment(node, none);
            }

            @Override
            public Void visitUnary(UnaryTree node, Void none) {
                if (node.getKind().toString().contains("CREMENT")) {
                    names.add(baseOf(node.getExpression()));
                }
                return super.visitUnary(node, none);
            }
        }.scan(tree, null);
        return names;
    }

    /** The name of the variable or field, or of the array whose element it is. */
    private static String baseOf(ExpressionTree variable) {
        if (variable instanceof ArrayAccessTree) {
            return baseOf(((ArrayAccessTree) variable).getExpression());
        }
        boolean ofThis = variable instanceof MemberSelectTree;
        return ofThis ? ((MemberSelectTree) variable).getIdentifier().toString() : variable.toString();
    }

    // Methods and calls.

    @Override
    public Void visitMethod(MethodTree node, Void none) {
        Set<Modifier> flags = node.getModifiers().getFlags();
        String name = node.getName().toString();
        boolean seen = !flags.contains(Modifier.PRIVATE);
        (seen ? publicNames : privateNames).add(name);
        calls.putIfAbsent(name, new HashSet<>());
        sayIf(seen && !flags.contains(Modifier.PUBLIC), 1, node, "others than all can see " + name);
        sayIf(node.getReturnType() != null && isArray(node.getReturnType()), 4, node, name + " answers an array");
        sayIf(flags.contains(Modifier.SYNCHRONIZED), 6, node, "synchronized");
        sayIf(!node.getThrows().isEmpty(), 6, node, "throws");
        sayIf(flags.contains(Modifier.NATIVE), 3, node, "native");
        sayIf(node.getParameters().size() > MOST_PARAMETERS, 10, node, "the parameters of " + name);
        long lines = lineOf(end(node)) - lineOf(start(node)) + 1;
        sayIf(lines > MOST_LINES, 10, node, name + " has " + lines + " lines");
        return super.visitMethod(node, none);
    }

    @Override
    public Void visitMethodInvocation(MethodInvocationTree node, Void none) {
        Element callee = trees.getElement(getCurrentPath());
        String caller = enclosingMethod();
        boolean own = callee != null
                && callee.getEnclosingElement().getSimpleName().contentEquals("IfConverter");
        boolean unwritten = node.getMethodSelect().toString().equals("super");
        sayIf(!own && !unwritten, 3, node, "the call " + node);
        if (own) {
            calls.computeIfAbsent(caller, key -> new HashSet<>()).add(callee.getSimpleName().toString());
        }
        for (ExpressionTree argument : node.getArguments()) {
            sayIf(holdsCall(argument), 10, node, "a call inside the arguments of " + node);
            sayIf(caller.equals("<init>") && isArray(argument), 4, node, "the constructor hands on an array");
        }
        return super.visitMethodInvocation(node, none);
    }

    private String enclosingMethod() {
        for (Tree tree : getCurrentPath()) {
            if (tree instanceof MethodTree) {
                return ((MethodTree) tree).getName().toString();
            }
        }
        return "<init>";
    }

    private static boolean holdsCall(Tree tree) {
        List<Tree> found = new ArrayList<>();
        new TreeScanner<Void, Void>() {
            @Override
            public Void visitMethodInvocation(MethodInvocationTree node, Void none) {
                found.add(node);
                return null;
            }
        }.scan(tree, null);
        return !found.isEmpty();
    }

    private void lookAtNames() {
        Set<String> both = new HashSet<>(privateNames);
        both.retainAll(publicNames);
        for (String name : both) {
            faults.add("rule 1: a private method has the name of the public " + name);
        }
    }

    private void lookAtCalls() {
        for (String name : calls.keySet()) {
            int deep = depth(name, new ArrayList<>());
            if (deep > MOST_DEEP) {
                faults.add("rule 10: calls go " + deep + " deep from " + name);
            }
        }
    }

    private int depth(String name, List<String> callers) {
        if (callers.contains(name)) {
            faults.add("rule 8: " + name + " comes back to itself by " + callers);
            return 0;
        }
        callers.add(name);
        int deepest = 0;
        for (String callee : calls.getOrDefault(name, Set.of())) {
            deepest = Math.max(deepest, depth(callee, callers));
        }
        callers.remove(name);
        return deepest + 1;
    }
}
