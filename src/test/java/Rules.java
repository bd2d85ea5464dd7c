import com.sun.source.tree.ArrayAccessTree;
import com.sun.source.tree.AssertTree;
import com.sun.source.tree.AssignmentTree;
import com.sun.source.tree.BinaryTree;
import com.sun.source.tree.BlockTree;
import com.sun.source.tree.ClassTree;
import com.sun.source.tree.CompilationUnitTree;
import com.sun.source.tree.CompoundAssignmentTree;
import com.sun.source.tree.DoWhileLoopTree;
import com.sun.source.tree.ExpressionTree;
import com.sun.source.tree.ForLoopTree;
import com.sun.source.tree.IdentifierTree;
import com.sun.source.tree.ImportTree;
import com.sun.source.tree.LambdaExpressionTree;
import com.sun.source.tree.LiteralTree;
import com.sun.source.tree.MemberReferenceTree;
import com.sun.source.tree.MemberSelectTree;
import com.sun.source.tree.MethodInvocationTree;
import com.sun.source.tree.MethodTree;
import com.sun.source.tree.NewArrayTree;
import com.sun.source.tree.NewClassTree;
import com.sun.source.tree.SynchronizedTree;
import com.sun.source.tree.ThrowTree;
import com.sun.source.tree.Tree;
import com.sun.source.tree.TryTree;
import com.sun.source.tree.UnaryTree;
import com.sun.source.tree.VariableTree;
import com.sun.source.tree.WhileLoopTree;
import com.sun.source.util.JavacTask;
import com.sun.source.util.TreePath;
import com.sun.source.util.TreePathScanner;
import com.sun.source.util.Trees;
import java.io.StringWriter;
import java.net.URI;
import java.util.ArrayList;
import java.util.LinkedHashMap;
import java.util.LinkedHashSet;
import java.util.List;
import java.util.Map;
import java.util.Set;
import javax.lang.model.element.Element;
import javax.lang.model.element.ElementKind;
import javax.lang.model.element.ExecutableElement;
import javax.lang.model.element.Modifier;
import javax.lang.model.element.TypeElement;
import javax.lang.model.element.VariableElement;
import javax.lang.model.type.ArrayType;
import javax.lang.model.type.DeclaredType;
import javax.lang.model.type.TypeKind;
import javax.lang.model.type.TypeMirror;
import javax.tools.DiagnosticCollector;
import javax.tools.JavaCompiler;
import javax.tools.JavaFileObject;
import javax.tools.SimpleJavaFileObject;
import javax.tools.StandardJavaFileManager;
import javax.tools.ToolProvider;

/**
 * What of the rules 1 to 13 of LANGUAGE.md a program does not keep, as far as it can be seen in the tree that the compiler
 * makes of it. A rule that asks how the program runs (7, and the ends of loops in 9) is for the tests that run it.
 */
final class Rules extends TreePathScanner<Void, Void> {
    private static final int MOST_PARAMETERS = 7;
    private static final int MOST_CALLS_DEEP = 8;
    // The rule says 'some sixty' lines, 'some twelve' classes, 'some twenty' fields: a tenth more is still some.
    private static final int MOST_LINES = 66;
    private static final int MOST_CLASSES = 13;
    private static final int MOST_FIELDS = 22;

    private static final Set<String> IMPORTS = Set.of("java.util.ArrayList", "java.util.List", "java.util.Iterator", "java.util.Arrays");
    private static final Set<String> TYPES = Set.of("java.lang.String", "java.lang.StringBuilder", "java.lang.Integer",
            "java.util.ArrayList", "java.util.List", "java.util.Iterator", "java.lang.Iterable", "java.lang.Comparable");
    private static final Set<String> MADE = Set.of("java.lang.StringBuilder", "java.lang.String", "java.util.ArrayList");
    private static final Set<String> ON_LISTS = Set.of("add", "get", "set", "remove", "size", "isEmpty", "clear", "of");
    private static final Map<String, Set<String>> LIBRARY = Map.of(
            "java.lang.String", Set.of("length", "charAt", "isEmpty", "equals", "indexOf", "substring", "toCharArray"),
            "java.lang.StringBuilder",
            Set.of("append", "charAt", "setCharAt", "setLength", "deleteCharAt", "reverse", "length", "toString"),
            "java.lang.CharSequence", Set.of("length", "charAt", "isEmpty"),
            "java.util.ArrayList", ON_LISTS,
            "java.util.List", ON_LISTS,
            "java.util.Iterator", Set.of("hasNext", "next"),
            "java.lang.Iterable", Set.of("iterator"),
            "java.lang.Comparable", Set.of("compareTo"),
            "java.lang.System", Set.of("arraycopy"),
            "java.util.Arrays", Set.of("copyOf", "copyOfRange", "fill"));
    private static final Set<String> WITH_FUNCTIONS = Set.of("java.lang.Integer", "java.lang.Long", "java.lang.Math");
    private static final Set<String> OF_EACH_OBJECT = Set.of("equals", "hashCode", "toString");
    private static final Set<TypeKind> CONSTANTS = Set.of(TypeKind.INT, TypeKind.LONG, TypeKind.BOOLEAN, TypeKind.CHAR);
    private static final Set<TypeKind> IN_CONSTANT_ARRAYS = Set.of(TypeKind.INT, TypeKind.LONG, TypeKind.CHAR, TypeKind.BYTE);
    private static final Set<TypeKind> WHOLE = Set.of(TypeKind.INT, TypeKind.LONG);

    private final List<String> broken = new ArrayList<>();
    private final Map<ExecutableElement, Set<ExecutableElement>> calls = new LinkedHashMap<>();
    private final Set<String> privateNames = new LinkedHashSet<>();
    private final Set<String> publicNames = new LinkedHashSet<>();
    private final Trees trees;
    private final CompilationUnitTree unit;
    private int classes = 0;

    private Rules(Trees trees, CompilationUnitTree unit) {
        this.trees = trees;
        this.unit = unit;
    }

    /** Each place where a rule is not kept, told with the rule's number. */
    static List<String> broken(String program) throws Exception {
        JavaCompiler compiler = ToolProvider.getSystemJavaCompiler();
        DiagnosticCollector<JavaFileObject> told = new DiagnosticCollector<>();
        try (StandardJavaFileManager files = compiler.getStandardFileManager(told, null, null)) {
            JavaFileObject source = new SimpleJavaFileObject(URI.create("string:///HedgeChains.java"), JavaFileObject.Kind.SOURCE) {
                @Override
                public CharSequence getCharContent(boolean ignoreErrors) {
                    return program;
                }
            };
            JavacTask task = (JavacTask) compiler.getTask(new StringWriter(), files, told, List.of("-proc:none"), null, List.of(source));
            CompilationUnitTree unit = task.parse().iterator().next();
            task.analyze();
            Rules rules = new Rules(Trees.instance(task), unit);
            told.getDiagnostics().stream().filter(each -> each.getKind() == javax.tools.Diagnostic.Kind.ERROR)
                    .forEach(each -> rules.broken.add("does not compile: " + each.getMessage(null)));
            if (rules.broken.isEmpty()) {
                rules.scan(unit, null);
                rules.lookAtAll();
            }
            return rules.broken;
        }
    }

    private void tell(int rule, String what, Tree where) {
        broken.add("rule " + rule + ": " + what + ", line " + line(trees.getSourcePositions().getStartPosition(unit, where)));
    }

    private long line(long position) {
        return unit.getLineMap().getLineNumber(position);
    }

    private void lookAtAll() {
        if (classes > MOST_CLASSES) {
            tell(11, classes + " classes", unit);
        }
        for (String name : privateNames) {
            if (publicNames.contains(name)) {
                tell(1, "a private method bears the name of the public " + name, unit);
            }
        }
        for (ExecutableElement method : calls.keySet()) {
            int deep = depth(method, new ArrayList<>());
            if (deep > MOST_CALLS_DEEP) {
                tell(11, "calls go " + deep + " deep from " + method, unit);
            }
        }
    }

    /** A call of a method that is open already is a recursion, which goes by rule 8. */
    private int depth(ExecutableElement method, List<ExecutableElement> open) {
        if (open.contains(method)) {
            if (method.getModifiers().contains(Modifier.PUBLIC) && isFace(method.getEnclosingElement())) {
                broken.add("rule 8: the public " + method + " is called again");
            }
            return 0;
        }
        open.add(method);
        int deepest = 0;
        for (ExecutableElement called : calls.getOrDefault(method, Set.of())) {
            deepest = Math.max(deepest, depth(called, open));
        }
        open.remove(method);
        return deepest + 1;
    }

    // ---- what is whose

    private Element here() {
        return trees.getElement(getCurrentPath());
    }

    private TypeMirror typeOf(Tree tree) {
        return trees.getTypeMirror(new TreePath(getCurrentPath(), tree));
    }

    private static boolean isFace(Element type) {
        return type instanceof TypeElement && ((TypeElement) type).getQualifiedName().contentEquals("HedgeChains");
    }

    private static boolean isOwn(Element element) {
        for (Element around = element; around != null; around = around.getEnclosingElement()) {
            if (isFace(around)) {
                return true;
            }
        }
        return false;
    }

    private static String nameOf(TypeMirror type) {
        return type.getKind() == TypeKind.DECLARED ? ((TypeElement) ((DeclaredType) type).asElement()).getQualifiedName().toString() : "";
    }

    private static boolean isString(TypeMirror type) {
        return type != null && nameOf(type).equals("java.lang.String");
    }

    private boolean isTold(TypeMirror type) {
        switch (type.getKind()) {
            case ARRAY:
                TypeMirror element = ((ArrayType) type).getComponentType();
                if (element.getKind() == TypeKind.ARRAY) {
                    return ((ArrayType) element).getComponentType().getKind().isPrimitive();
                }
                return element.getKind().isPrimitive() || isOwnType(element);
            case DECLARED:
                return (isOwnType(type) || TYPES.contains(nameOf(type)))
                        && ((DeclaredType) type).getTypeArguments().stream().allMatch(this::mayBeHeld);
            default:
                return true;
        }
    }

    private boolean mayBeHeld(TypeMirror type) {
        return type.getKind() == TypeKind.TYPEVAR || type.getKind() == TypeKind.WILDCARD || isOwnType(type)
                || nameOf(type).equals("java.lang.Integer");
    }

    private static boolean isOwnType(TypeMirror type) {
        return type.getKind() == TypeKind.TYPEVAR || type.getKind() == TypeKind.DECLARED && isOwn(((DeclaredType) type).asElement());
    }

    private void lookAtType(Tree type) {
        TypeMirror told = type == null ? null : typeOf(type);
        if (told != null && !isTold(told)) {
            tell(3, "the type " + told, type);
        }
    }

    // ---- rules 1, 2, 11: classes and their members

    @Override
    public Void visitCompilationUnit(CompilationUnitTree tree, Void nothing) {
        if (tree.getPackageName() != null) {
            tell(1, "a package line", tree);
        }
        if (tree.getTypeDecls().size() != 1) {
            tell(1, "classes beside the one of the document", tree);
        }
        return super.visitCompilationUnit(tree, nothing);
    }

    @Override
    public Void visitClass(ClassTree tree, Void nothing) {
        classes++;
        Element type = here();
        Set<Modifier> modifiers = type.getModifiers();
        Tree around = getCurrentPath().getParentPath().getLeaf();
        if (around instanceof CompilationUnitTree) {
            if (!isFace(type) || !modifiers.contains(Modifier.PUBLIC) || !modifiers.contains(Modifier.FINAL)) {
                tell(1, "the class of the document is public and final", tree);
            }
        } else if (!(around instanceof ClassTree) || !modifiers.contains(Modifier.STATIC)) {
            tell(2, "a class that is no static nested one", tree);
        } else if (modifiers.contains(Modifier.PUBLIC) || modifiers.contains(Modifier.PROTECTED)) {
            tell(1, "a class inside that is neither private nor package-visible", tree);
        }
        lookAtFields(tree, type);
        return super.visitClass(tree, nothing);
    }

    private void lookAtFields(ClassTree tree, Element type) {
        int fields = 0;
        for (Element member : type.getEnclosedElements()) {
            boolean isField = member.getKind() == ElementKind.FIELD && !member.getModifiers().contains(Modifier.STATIC);
            fields += isField ? 1 : 0;
            if (isField && type.getKind() == ElementKind.ENUM && !WHOLE.contains(member.asType().getKind())
                    && member.asType().getKind() != TypeKind.BOOLEAN && !isString(member.asType())) {
                tell(2, "an enum's field " + member, tree);
            }
        }
        if (fields > MOST_FIELDS) {
            tell(11, fields + " fields", tree);
        }
    }

    @Override
    public Void visitMethod(MethodTree tree, Void nothing) {
        ExecutableElement method = (ExecutableElement) here();
        calls.putIfAbsent(method, new LinkedHashSet<>());
        Set<Modifier> modifiers = method.getModifiers();
        boolean isConstructor = method.getKind() == ElementKind.CONSTRUCTOR;
        if (modifiers.contains(Modifier.PRIVATE) && !isConstructor) {
            privateNames.add(method.getSimpleName().toString());
        } else if (isFace(method.getEnclosingElement())) {
            publicNames.add(method.getSimpleName().toString());
            if (!modifiers.contains(Modifier.PUBLIC)) {
                tell(1, method + " is neither public nor private", tree);
            }
        }
        if (modifiers.contains(Modifier.SYNCHRONIZED) || !tree.getThrows().isEmpty()) {
            tell(6, "how " + method + " is declared", tree);
        }
        if (method.getParameters().size() > MOST_PARAMETERS) {
            tell(11, method.getParameters().size() + " parameters", tree);
        }
        lookAtLines(tree);
        lookAtType(tree.getReturnType());
        return super.visitMethod(tree, nothing);
    }

    private void lookAtLines(MethodTree tree) {
        long start = trees.getSourcePositions().getStartPosition(unit, tree);
        long end = trees.getSourcePositions().getEndPosition(unit, tree);
        if (end > start && line(end) - line(start) + 1 > MOST_LINES) {
            tell(11, "a method of " + (line(end) - line(start) + 1) + " lines", tree);
        }
    }

    @Override
    public Void visitLambdaExpression(LambdaExpressionTree tree, Void nothing) {
        tell(2, "a lambda", tree);
        return super.visitLambdaExpression(tree, nothing);
    }

    @Override
    public Void visitMemberReference(MemberReferenceTree tree, Void nothing) {
        tell(2, "a method reference", tree);
        return super.visitMemberReference(tree, nothing);
    }

    // ---- rules 3 and 5: types, static fields

    @Override
    public Void visitVariable(VariableTree tree, Void nothing) {
        Element variable = here();
        if (variable.getKind() != ElementKind.ENUM_CONSTANT) {
            lookAtType(tree.getType());
        }
        if (variable.getKind() == ElementKind.FIELD) {
            if (variable.getModifiers().contains(Modifier.STATIC)) {
                lookAtStatic(tree, variable);
            } else if (isFace(variable.getEnclosingElement()) && !variable.getModifiers().contains(Modifier.PRIVATE)) {
                tell(1, variable + " is not private", tree);
            }
        }
        return super.visitVariable(tree, nothing);
    }

    private void lookAtStatic(VariableTree tree, Element variable) {
        TypeMirror type = variable.asType();
        boolean isConstant = CONSTANTS.contains(type.getKind()) || isString(type);
        if (type.getKind() == TypeKind.ARRAY) {
            TypeMirror element = ((ArrayType) type).getComponentType();
            boolean isWrittenOut = tree.getInitializer() instanceof NewArrayTree
                    && ((NewArrayTree) tree.getInitializer()).getInitializers() != null;
            // Rule 4 lets the copy that values() makes be kept once.
            isConstant = IN_CONSTANT_ARRAYS.contains(element.getKind()) && isWrittenOut
                    || isOwnType(element) && tree.getInitializer() instanceof MethodInvocationTree;
        } else if (nameOf(type).equals("java.util.List")) {
            isConstant = tree.getInitializer() instanceof MethodInvocationTree;
        }
        if (!isConstant || !variable.getModifiers().contains(Modifier.FINAL)) {
            tell(5, "the static field " + variable, tree);
        }
    }

    @Override
    public Void visitBlock(BlockTree tree, Void nothing) {
        if (tree.isStatic()) {
            tell(5, "a static initialiser block", tree);
        }
        return super.visitBlock(tree, nothing);
    }

    @Override
    public Void visitAssignment(AssignmentTree tree, Void nothing) {
        lookAtChanged(tree.getVariable());
        return super.visitAssignment(tree, nothing);
    }

    @Override
    public Void visitUnary(UnaryTree tree, Void nothing) {
        if (tree.getKind().name().endsWith("CREMENT")) {
            lookAtChanged(tree.getExpression());
        }
        return super.visitUnary(tree, nothing);
    }

    private void lookAtChanged(ExpressionTree changed) {
        if (changed instanceof ArrayAccessTree) {
            ExpressionTree array = ((ArrayAccessTree) changed).getExpression();
            Element field = trees.getElement(new TreePath(new TreePath(getCurrentPath(), changed), array));
            if (field != null && field.getModifiers().contains(Modifier.STATIC)) {
                tell(5, "a static array that is changed", changed);
            }
        }
    }

    // ---- rules 4 and 12: the library, what is called and made

    @Override
    public Void visitImport(ImportTree tree, Void nothing) {
        if (tree.isStatic() || !IMPORTS.contains(tree.getQualifiedIdentifier().toString())) {
            tell(4, tree.toString().trim(), tree);
        }
        return null;
    }

    @Override
    public Void visitMethodInvocation(MethodInvocationTree tree, Void nothing) {
        ExecutableElement called = (ExecutableElement) here();
        TypeMirror on = tree.getMethodSelect() instanceof MemberSelectTree ? receiver((MemberSelectTree) tree.getMethodSelect()) : null;
        if (isOwn(called)) {
            open(called);
            lookAtCallInConstructor(tree, called);
        } else if (called.getKind() != ElementKind.CONSTRUCTOR) {
            lookAtLibrary(tree, called, on);
        }
        boolean isOfText = on != null && (isString(on) || nameOf(on).equals("java.lang.StringBuilder"));
        if (OF_EACH_OBJECT.contains(called.getSimpleName().toString()) && !isOfText) {
            tell(6, called + " of an object", tree);
        }
        return super.visitMethodInvocation(tree, nothing);
    }

    private TypeMirror receiver(MemberSelectTree select) {
        return trees.getTypeMirror(new TreePath(new TreePath(getCurrentPath(), select), select.getExpression()));
    }

    private void lookAtLibrary(Tree tree, ExecutableElement called, TypeMirror on) {
        String name = called.getSimpleName().toString();
        String type = called.getEnclosingElement().toString();
        boolean isFunction = WITH_FUNCTIONS.contains(type) && called.getModifiers().contains(Modifier.STATIC)
                && !name.endsWith("Exact") && !called.getParameters().isEmpty()
                && called.getParameters().stream().allMatch(each -> WHOLE.contains(each.asType().getKind()));
        boolean isArrayCopy = name.equals("clone") && on != null && on.getKind() == TypeKind.ARRAY;
        if (!isFunction && !isArrayCopy && !LIBRARY.getOrDefault(type, Set.of()).contains(name)) {
            tell(4, type + "." + called, tree);
        }
    }

    private void open(ExecutableElement called) {
        ExecutableElement caller = caller();
        if (caller != null) {
            calls.computeIfAbsent(caller, none -> new LinkedHashSet<>()).add(called);
        }
    }

    private ExecutableElement caller() {
        for (TreePath path = getCurrentPath(); path != null; path = path.getParentPath()) {
            if (path.getLeaf() instanceof MethodTree) {
                return (ExecutableElement) trees.getElement(path);
            }
        }
        return null;
    }

    private void lookAtCallInConstructor(Tree tree, ExecutableElement called) {
        ExecutableElement caller = caller();
        Element type = called.getEnclosingElement();
        boolean isFixed = called.getKind() == ElementKind.CONSTRUCTOR || called.getModifiers().contains(Modifier.PRIVATE)
                || called.getModifiers().contains(Modifier.STATIC) || called.getModifiers().contains(Modifier.FINAL)
                || type.getModifiers().contains(Modifier.FINAL);
        if (caller != null && caller.getKind() == ElementKind.CONSTRUCTOR && !isFixed) {
            tell(12, "a constructor calls " + called, tree);
        }
    }

    @Override
    public Void visitNewClass(NewClassTree tree, Void nothing) {
        Element made = here();
        TypeMirror type = typeOf(tree.getIdentifier());
        if (tree.getClassBody() != null) {
            tell(2, "a class without a name", tree);
        } else if (isOwn(made)) {
            open((ExecutableElement) made);
        } else if (!MADE.contains(nameOf(type)) || isString(type) && !made.toString().equals("String(char[])")) {
            tell(4, "new " + made, tree);
        }
        lookAtType(tree.getIdentifier());
        return super.visitNewClass(tree, nothing);
    }

    @Override
    public Void visitNewArray(NewArrayTree tree, Void nothing) {
        TypeMirror type = trees.getTypeMirror(getCurrentPath());
        if (type != null && !isTold(type)) {
            tell(3, "the type " + type, tree);
        }
        return super.visitNewArray(tree, nothing);
    }

    @Override
    public Void visitMemberSelect(MemberSelectTree tree, Void nothing) {
        Element member = here();
        boolean isLength = tree.getIdentifier().contentEquals("length") && typeOf(tree.getExpression()) instanceof ArrayType;
        if (member instanceof VariableElement && !isLength && !isOwn(member)) {
            tell(4, tree.toString(), tree);
        }
        return super.visitMemberSelect(tree, nothing);
    }

    @Override
    public Void visitIdentifier(IdentifierTree tree, Void nothing) {
        ExecutableElement caller = caller();
        Tree around = getCurrentPath().getParentPath().getLeaf();
        boolean isHandedOut = around instanceof NewClassTree || around instanceof AssignmentTree
                || around instanceof MethodInvocationTree && ((MethodInvocationTree) around).getArguments().contains(tree);
        if (tree.getName().contentEquals("this") && isHandedOut && caller != null && caller.getKind() == ElementKind.CONSTRUCTOR) {
            tell(12, "a constructor hands out its object", tree);
        }
        return super.visitIdentifier(tree, nothing);
    }

    // ---- rules 6, 9, 10: statements and expressions

    @Override
    public Void visitThrow(ThrowTree tree, Void nothing) {
        tell(6, "throw", tree);
        return super.visitThrow(tree, nothing);
    }

    @Override
    public Void visitTry(TryTree tree, Void nothing) {
        tell(6, "try", tree);
        return super.visitTry(tree, nothing);
    }

    @Override
    public Void visitSynchronized(SynchronizedTree tree, Void nothing) {
        tell(6, "synchronized", tree);
        return super.visitSynchronized(tree, nothing);
    }

    @Override
    public Void visitAssert(AssertTree tree, Void nothing) {
        tell(6, "assert", tree);
        return super.visitAssert(tree, nothing);
    }

    @Override
    public Void visitBinary(BinaryTree tree, Void nothing) {
        TypeMirror left = typeOf(tree.getLeftOperand());
        TypeMirror right = typeOf(tree.getRightOperand());
        switch (tree.getKind()) {
            case PLUS:
                if (isString(left) || isString(right)) {
                    tell(10, "texts joined by +", tree);
                }
                break;
            case EQUAL_TO:
            case NOT_EQUAL_TO:
                if (isString(left) && isString(right) || nameOf(left).equals("java.lang.Integer") && nameOf(right).equals("java.lang.Integer")) {
                    tell(6, "texts or Integers compared by " + tree.getKind(), tree);
                }
                break;
            case REMAINDER:
                if (!isWhole(left) || !isWhole(right)) {
                    tell(3, "% on doubles", tree);
                }
                break;
            default:
                break;
        }
        return super.visitBinary(tree, nothing);
    }

    private static boolean isWhole(TypeMirror type) {
        return type.getKind() != TypeKind.DOUBLE && type.getKind() != TypeKind.FLOAT;
    }

    @Override
    public Void visitCompoundAssignment(CompoundAssignmentTree tree, Void nothing) {
        lookAtChanged(tree.getVariable());
        if (isString(typeOf(tree.getVariable()))) {
            tell(10, "texts joined by +=", tree);
        }
        return super.visitCompoundAssignment(tree, nothing);
    }

    @Override
    public Void visitForLoop(ForLoopTree tree, Void nothing) {
        if (tree.getCondition() == null || isAlways(tree.getCondition())) {
            tell(9, "a loop without a bound", tree);
        }
        return super.visitForLoop(tree, nothing);
    }

    @Override
    public Void visitWhileLoop(WhileLoopTree tree, Void nothing) {
        if (isAlways(tree.getCondition())) {
            tell(9, "a loop without a bound", tree);
        }
        return super.visitWhileLoop(tree, nothing);
    }

    @Override
    public Void visitDoWhileLoop(DoWhileLoopTree tree, Void nothing) {
        if (isAlways(tree.getCondition())) {
            tell(9, "a loop without a bound", tree);
        }
        return super.visitDoWhileLoop(tree, nothing);
    }

    private static boolean isAlways(ExpressionTree condition) {
        return condition.toString().replaceAll("[()]", "").equals("true");
    }

    @Override
    public Void visitLiteral(LiteralTree tree, Void nothing) {
        if (tree.getValue() instanceof String && !((String) tree.getValue()).matches("[\\x01-\\x7f]*")) {
            tell(4, "a text with signs beyond 1 to 127", tree);
        }
        return super.visitLiteral(tree, nothing);
    }
}
