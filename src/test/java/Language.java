import com.sun.source.tree.*;
import com.sun.source.util.JavacTask;
import com.sun.source.util.TreePath;
import com.sun.source.util.TreePathScanner;
import com.sun.source.util.Trees;
import java.io.IOException;
import java.io.UncheckedIOException;
import java.net.URI;
import java.util.ArrayList;
import java.util.HashMap;
import java.util.LinkedHashSet;
import java.util.List;
import java.util.Map;
import java.util.Set;
import javax.lang.model.element.Element;
import javax.lang.model.element.ElementKind;
import javax.lang.model.element.Modifier;
import javax.lang.model.element.TypeElement;
import javax.lang.model.element.VariableElement;
import javax.lang.model.type.ArrayType;
import javax.lang.model.type.DeclaredType;
import javax.lang.model.type.TypeMirror;
import javax.tools.Diagnostic;
import javax.tools.DiagnosticCollector;
import javax.tools.JavaFileObject;
import javax.tools.SimpleJavaFileObject;
import javax.tools.ToolProvider;

/**
 * The rules of LANGUAGE.md that a tool can look at, more strictly than they are where the class keeps to less: it
 * has no recursion, no try and no enum, say. That each index and reference is looked at, no tool here can tell.
 */
final class Language extends TreePathScanner<Void, Void> {
    private static final int MOST_PARAMETERS = 7;
    private static final int MOST_LINES = 60;
    private static final int MOST_CALLS_DEEP = 8;
    private static final int MOST_CLASSES = 12;
    private static final int MOST_FIELDS = 20;

    private static final Set<String> IMPORTS = Set.of("java.util.ArrayList", "java.util.Arrays", "java.util.Iterator",
            "java.util.List", "java.util.NoSuchElementException");
    private static final Set<String> EXCEPTIONS = Set.of("IllegalStateException", "IllegalArgumentException",
            "IndexOutOfBoundsException", "ArithmeticException", "UnsupportedOperationException",
            "NoSuchElementException", "RuntimeException");
    private static final Set<String> LIBRARY = Set.of("java.lang.Object()", "java.util.ArrayList()",
            "java.util.ArrayList.add(E)", "java.util.ArrayList.add(int,E)", "java.util.ArrayList.get(int)",
            "java.util.ArrayList.set(int,E)", "java.util.ArrayList.remove(int)", "java.util.ArrayList.size()",
            "java.util.ArrayList.isEmpty()", "java.util.ArrayList.clear()", "java.lang.Integer.bitCount(int)",
            "java.lang.Math.max(int,int)", "java.lang.Math.min(int,int)", "java.lang.Math.abs(int)");
    private static final Set<String> OF_EVERY_OBJECT = Set.of("equals", "hashCode", "toString");

    private final CompilationUnitTree unit;
    private final Trees trees;
    private final List<String> faults;
    private final Set<String> faceNames;
    private final Map<Element, Set<Element>> callsOf;
    private int classes;

    private Language(CompilationUnitTree unit, Trees trees) {
        this.unit = unit;
        this.trees = trees;
        faults = new ArrayList<>();
        faceNames = new LinkedHashSet<>();
        callsOf = new HashMap<>();
    }

    /** What is against the rules in a class of the face, each a line that begins with the number of the rule. */
    static List<String> faultsOf(String className, String text) {
        JavaFileObject file = new SimpleJavaFileObject(URI.create("string:///" + className + ".java"),
                JavaFileObject.Kind.SOURCE) {
            @Override
            public CharSequence getCharContent(boolean ignoreEncodingErrors) {
                return text;
            }
        };
        DiagnosticCollector<JavaFileObject> told = new DiagnosticCollector<>();
        JavacTask task = (JavacTask) ToolProvider.getSystemJavaCompiler().getTask(null, null, told,
                List.of("-proc:none"), null, List.of(file));
        try {
            CompilationUnitTree unit = task.parse().iterator().next();
            task.analyze();
            for (Diagnostic<? extends JavaFileObject> each : told.getDiagnostics()) {
                if (each.getKind() == Diagnostic.Kind.ERROR) {
                    return List.of("javac: " + each);
                }
            }
            Language language = new Language(unit, Trees.instance(task));
            language.lookAtAll(text);
            return language.faults;
        } catch (IOException notRead) {
            throw new UncheckedIOException(notRead);
        }
    }

    private void lookAtAll(String text) {
        for (int at = 0; at < text.length(); at++) {
            if (text.charAt(at) > 126) {
                fault(4, "a sign that is none of 1 to 126");
                break;
            }
        }
        gatherFaceNames();
        if (unit.getTypeDecls().size() != 1) {
            fault(1, "there is not one class in the file");
        }
        scan(new TreePath(unit), null);
        if (classes > MOST_CLASSES) {
            fault(11, "classes: " + classes);
        }
        for (Element from : callsOf.keySet()) {
            int depth = depthOf(from, new LinkedHashSet<>());
            if (depth > MOST_CALLS_DEEP) {
                fault(11, "calls are " + depth + " deep from " + from);
            }
        }
    }

    private void gatherFaceNames() {
        for (Tree type : unit.getTypeDecls()) {
            for (Tree member : ((ClassTree) type).getMembers()) {
                if (member instanceof MethodTree method && method.getModifiers().getFlags().contains(Modifier.PUBLIC)) {
                    faceNames.add(method.getName().toString());
                }
            }
        }
        faceNames.remove("<init>");
    }

    /** How many calls stand open at most, that of the method itself counted; too many, if one calls itself. */
    private int depthOf(Element method, Set<Element> open) {
        if (!open.add(method)) {
            fault(8, "recursion by " + method);
            return MOST_CALLS_DEEP + 1;
        }
        int deepest = 0;
        for (Element called : callsOf.getOrDefault(method, Set.of())) {
            deepest = Math.max(deepest, depthOf(called, open));
        }
        open.remove(method);
        return deepest + 1;
    }

    private void fault(int rule, String text) {
        TreePath path = getCurrentPath();
        long at = path == null ? 0 : trees.getSourcePositions().getStartPosition(unit, path.getLeaf());
        String line = path == null ? "the file" : "line " + unit.getLineMap().getLineNumber(Math.max(at, 0));
        faults.add(rule + ": " + text + ", " + line);
    }

    private TypeMirror typeOf(Tree tree) {
        return trees.getTypeMirror(TreePath.getPath(unit, tree));
    }

    private boolean isOwn(TypeMirror type) {
        return type instanceof DeclaredType declared && !declared.toString().startsWith("java");
    }

    private static boolean isText(TypeMirror type) {
        return type != null && type.toString().equals("java.lang.String");
    }

    private boolean isAllowed(TypeMirror type) {
        if (type instanceof ArrayType array) {
            TypeMirror part = array.getComponentType();
            if (part instanceof ArrayType inner) {
                return inner.getComponentType().getKind().isPrimitive();
            }
            return part.getKind().isPrimitive() || isOwn(part);
        }
        if (type.getKind().isPrimitive() || isOwn(type) || isText(type)) {
            return true;
        }
        return type instanceof DeclaredType declared && declared.asElement().toString().equals("java.util.ArrayList")
                && declared.getTypeArguments().size() == 1 && isOwn(declared.getTypeArguments().get(0));
    }

    @Override
    public Void visitCompilationUnit(CompilationUnitTree tree, Void none) {
        if (tree.getPackageName() != null) {
            fault(0, "a package line");
        }
        return super.visitCompilationUnit(tree, none);
    }

    @Override
    public Void visitImport(ImportTree tree, Void none) {
        if (tree.isStatic() || !IMPORTS.contains(tree.getQualifiedIdentifier().toString())) {
            fault(4, "import of " + tree.getQualifiedIdentifier());
        }
        return null;
    }

    @Override
    public Void visitClass(ClassTree tree, Void none) {
        classes++;
        Set<Modifier> flags = tree.getModifiers().getFlags();
        boolean isInside = getCurrentPath().getParentPath().getLeaf() != unit;
        if (isInside && (!flags.contains(Modifier.STATIC) || flags.contains(Modifier.PUBLIC)
                || flags.contains(Modifier.PROTECTED))) {
            fault(1, "a class inside that is not static, or more than package-visible: " + tree.getSimpleName());
        }
        if (!isInside && !flags.equals(Set.of(Modifier.PUBLIC, Modifier.FINAL))) {
            fault(1, "the class of the face is not public and final");
        }
        if (tree.getKind() != Tree.Kind.CLASS) {
            fault(2, "no plain class: " + tree.getSimpleName());
        }
        int fields = 0;
        for (Tree member : tree.getMembers()) {
            if (member instanceof VariableTree field && !field.getModifiers().getFlags().contains(Modifier.STATIC)) {
                fields++;
            }
            if (member instanceof BlockTree) {
                fault(5, "an initialiser block in " + tree.getSimpleName());
            }
        }
        if (fields > MOST_FIELDS) {
            fault(11, "fields of " + tree.getSimpleName() + ": " + fields);
        }
        return super.visitClass(tree, none);
    }

    @Override
    public Void visitVariable(VariableTree tree, Void none) {
        Set<Modifier> flags = tree.getModifiers().getFlags();
        if (!isAllowed(typeOf(tree))) {
            fault(3, "the type of " + tree.getName());
        }
        if (flags.contains(Modifier.STATIC)) {
            Element element = trees.getElement(getCurrentPath());
            boolean isConstant = ((VariableElement) element).getConstantValue() != null;
            if (!flags.contains(Modifier.FINAL) || !isConstant) {
                fault(5, "a static field that is no constant: " + tree.getName());
            }
        }
        boolean isField = getCurrentPath().getParentPath().getLeaf() instanceof ClassTree;
        boolean isOfFace = isField && getCurrentPath().getParentPath().getParentPath().getLeaf() == unit;
        if (isOfFace && !flags.contains(Modifier.PRIVATE)
                && !flags.equals(Set.of(Modifier.PUBLIC, Modifier.STATIC, Modifier.FINAL))) {
            fault(1, "a field that others see: " + tree.getName());
        }
        return super.visitVariable(tree, none);
    }

    @Override
    public Void visitMethod(MethodTree tree, Void none) {
        String name = tree.getName().toString();
        boolean isOfFace = getCurrentPath().getParentPath().getParentPath().getLeaf() == unit;
        Set<Modifier> flags = tree.getModifiers().getFlags();
        if (!(isOfFace && flags.contains(Modifier.PUBLIC)) && faceNames.contains(name)) {
            fault(1, "a name of the face: " + name);
        }
        if (isOfFace && !flags.contains(Modifier.PUBLIC) && !flags.contains(Modifier.PRIVATE)) {
            fault(1, "a method that others see: " + name);
        }
        if (OF_EVERY_OBJECT.contains(name)) {
            fault(6, name + " of an own object");
        }
        if (tree.getParameters().size() > MOST_PARAMETERS) {
            fault(11, "parameters of " + name);
        }
        long first = trees.getSourcePositions().getStartPosition(unit, tree);
        long last = trees.getSourcePositions().getEndPosition(unit, tree);
        LineMap lines = unit.getLineMap();
        if (last >= 0 && lines.getLineNumber(last) - lines.getLineNumber(first) >= MOST_LINES) {
            fault(11, "lines of " + name);
        }
        return super.visitMethod(tree, none);
    }

    private Element enclosingMethod() {
        for (TreePath path = getCurrentPath(); path != null; path = path.getParentPath()) {
            if (path.getLeaf() instanceof MethodTree) {
                return trees.getElement(path);
            }
        }
        return null;
    }

    private void noteCall(Element called, int arguments) {
        TypeElement owner = (TypeElement) called.getEnclosingElement();
        boolean isConstructor = called.getKind() == ElementKind.CONSTRUCTOR;
        String ownerName = owner.getQualifiedName().toString();
        if (!ownerName.startsWith("java")) {
            Element from = enclosingMethod();
            if (from != null) {
                callsOf.computeIfAbsent(from, key -> new LinkedHashSet<>()).add(called);
            }
            return;
        }
        boolean isThrown = EXCEPTIONS.contains(owner.getSimpleName().toString())
                && getCurrentPath().getParentPath().getLeaf() instanceof ThrowTree;
        String shape = ownerName + (isConstructor ? arguments == 0 ? "()" : "(..)" : "." + called);
        if (!isThrown && !LIBRARY.contains(shape)) {
            fault(4, "the library's " + shape);
        }
    }

    @Override
    public Void visitMethodInvocation(MethodInvocationTree tree, Void none) {
        Element called = trees.getElement(getCurrentPath());
        boolean isCopyOfArray = called.getSimpleName().contentEquals("clone");
        if (!isCopyOfArray) {
            noteCall(called, tree.getArguments().size());
        }
        return super.visitMethodInvocation(tree, none);
    }

    @Override
    public Void visitNewClass(NewClassTree tree, Void none) {
        if (tree.getClassBody() != null) {
            fault(2, "a class without a name");
        }
        noteCall(trees.getElement(getCurrentPath()), tree.getArguments().size());
        return super.visitNewClass(tree, none);
    }

    @Override
    public Void visitNewArray(NewArrayTree tree, Void none) {
        if (!isAllowed(typeOf(tree))) {
            fault(3, "an array of " + typeOf(tree));
        }
        for (ExpressionTree length : tree.getDimensions()) {
            if (!isConstantAbove(length, -1)) {
                fault(7, "the length of an array that is no constant");
            }
        }
        return super.visitNewArray(tree, none);
    }

    private boolean isConstantAbove(ExpressionTree tree, int least) {
        Object value = valueOf(tree);
        return value instanceof Number number && number.longValue() > least;
    }

    /** The value of a number that is written out, of a constant, or of the sum of two of these; null of another one. */
    private Object valueOf(ExpressionTree tree) {
        if (tree instanceof LiteralTree literal) {
            return literal.getValue();
        }
        if (tree instanceof BinaryTree sum && sum.getKind() == Tree.Kind.PLUS) {
            Object left = valueOf(sum.getLeftOperand());
            Object right = valueOf(sum.getRightOperand());
            return left instanceof Integer one && right instanceof Integer other ? one + other : null;
        }
        Element element = trees.getElement(TreePath.getPath(unit, tree));
        return element instanceof VariableElement constant ? constant.getConstantValue() : null;
    }

    private void lookAtDivisor(ExpressionTree divisor) {
        Object value = valueOf(divisor);
        if (!(value instanceof Number number) || number.longValue() == 0) {
            fault(7, "a divisor that is no constant above 0");
        }
    }

    @Override
    public Void visitBinary(BinaryTree tree, Void none) {
        TypeMirror left = typeOf(tree.getLeftOperand());
        TypeMirror right = typeOf(tree.getRightOperand());
        switch (tree.getKind()) {
            case PLUS -> {
                if (isText(left) || isText(right)) {
                    fault(10, "texts joined by +");
                }
            }
            case DIVIDE, REMAINDER -> lookAtDivisor(tree.getRightOperand());
            case EQUAL_TO, NOT_EQUAL_TO -> {
                if (isText(left) && isText(right)) {
                    fault(6, "== between two texts");
                }
            }
            default -> {
            }
        }
        return super.visitBinary(tree, none);
    }

    @Override
    public Void visitCompoundAssignment(CompoundAssignmentTree tree, Void none) {
        Tree.Kind kind = tree.getKind();
        if (kind == Tree.Kind.DIVIDE_ASSIGNMENT || kind == Tree.Kind.REMAINDER_ASSIGNMENT) {
            lookAtDivisor(tree.getExpression());
        }
        if (isText(typeOf(tree.getVariable()))) {
            fault(10, "texts joined by +=");
        }
        return super.visitCompoundAssignment(tree, none);
    }

    @Override
    public Void visitTypeCast(TypeCastTree tree, Void none) {
        if (!typeOf(tree).getKind().isPrimitive()) {
            fault(7, "a cast to " + typeOf(tree));
        }
        return super.visitTypeCast(tree, none);
    }

    @Override
    public Void visitThrow(ThrowTree tree, Void none) {
        Element from = enclosingMethod();
        if (from == null || from.getKind() == ElementKind.CONSTRUCTOR) {
            fault(6, "a throw in a constructor");
        }
        boolean isWritten = tree.getExpression() instanceof NewClassTree made
                && EXCEPTIONS.contains(made.getIdentifier().toString()) && made.getArguments().size() <= 1
                && made.getArguments().stream().allMatch(text -> text.getKind() == Tree.Kind.STRING_LITERAL);
        if (!isWritten) {
            fault(6, "what is thrown");
        }
        return super.visitThrow(tree, none);
    }

    @Override
    public Void visitForLoop(ForLoopTree tree, Void none) {
        if (tree.getCondition() == null || valueOf(tree.getCondition()) != null) {
            fault(9, "a loop without an end");
        }
        return super.visitForLoop(tree, none);
    }

    @Override
    public Void visitWhileLoop(WhileLoopTree tree, Void none) {
        ExpressionTree condition = ((ParenthesizedTree) tree.getCondition()).getExpression();
        if (valueOf(condition) != null) {
            fault(9, "a loop without an end");
        }
        return super.visitWhileLoop(tree, none);
    }

    @Override
    public Void visitTry(TryTree tree, Void none) {
        fault(6, "a try");
        return super.visitTry(tree, none);
    }

    @Override
    public Void visitInstanceOf(InstanceOfTree tree, Void none) {
        fault(6, "an instanceof");
        return super.visitInstanceOf(tree, none);
    }

    @Override
    public Void visitSynchronized(SynchronizedTree tree, Void none) {
        fault(6, "synchronized");
        return super.visitSynchronized(tree, none);
    }

    @Override
    public Void visitAssert(AssertTree tree, Void none) {
        fault(6, "an assert");
        return super.visitAssert(tree, none);
    }

    @Override
    public Void visitLambdaExpression(LambdaExpressionTree tree, Void none) {
        fault(2, "a lambda");
        return super.visitLambdaExpression(tree, none);
    }

    @Override
    public Void visitMemberReference(MemberReferenceTree tree, Void none) {
        fault(2, "a method reference");
        return super.visitMemberReference(tree, none);
    }

    @Override
    public Void visitAnnotation(AnnotationTree tree, Void none) {
        fault(2, "an annotation");
        return super.visitAnnotation(tree, none);
    }
}
