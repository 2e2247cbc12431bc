import com.sun.source.tree.AssertTree;
import com.sun.source.tree.BinaryTree;
import com.sun.source.tree.BlockTree;
import com.sun.source.tree.ClassTree;
import com.sun.source.tree.CompilationUnitTree;
import com.sun.source.tree.CompoundAssignmentTree;
import com.sun.source.tree.ImportTree;
import com.sun.source.tree.LambdaExpressionTree;
import com.sun.source.tree.LiteralTree;
import com.sun.source.tree.MemberReferenceTree;
import com.sun.source.tree.MethodInvocationTree;
import com.sun.source.tree.MethodTree;
import com.sun.source.tree.NewClassTree;
import com.sun.source.tree.SynchronizedTree;
import com.sun.source.tree.ThrowTree;
import com.sun.source.tree.Tree;
import com.sun.source.tree.TryTree;
import com.sun.source.tree.VariableTree;
import com.sun.source.util.JavacTask;
import com.sun.source.util.TreePathScanner;
import com.sun.source.util.Trees;
import java.nio.file.Path;
import java.util.HashMap;
import java.util.HashSet;
import java.util.List;
import java.util.Map;
import java.util.Set;
import javax.lang.model.element.Element;
import javax.lang.model.element.ElementKind;
import javax.lang.model.element.ExecutableElement;
import javax.lang.model.element.Modifier;
import javax.lang.model.element.NestingKind;
import javax.lang.model.element.TypeElement;
import javax.lang.model.element.VariableElement;
import javax.lang.model.type.ArrayType;
import javax.lang.model.type.DeclaredType;
import javax.lang.model.type.TypeKind;
import javax.lang.model.type.TypeMirror;
import javax.tools.JavaCompiler;
import javax.tools.StandardJavaFileManager;
import javax.tools.ToolProvider;

/**
 * What can be seen of LANGUAGE.md's rules in the text of ThawGives.java: no part of Java and no library beyond them,
 * sizes, and how deep calls go. Started where the project's folder is the working one.
 */
public final class LanguageTest extends TreePathScanner<Void, Void> {
    private static final Path SOURCE = Path.of("src/main/java/ThawGives.java");
    private static final Set<String> IMPORTS = Set.of("java.util.ArrayList", "java.util.List", "java.util.Arrays",
        "java.util.Iterator");
    private static final Set<String> TYPES = Set.of("String", "StringBuilder", "Integer", "ArrayList", "List",
        "Iterator", "Iterable", "Comparable");
    private static final Set<String> MADE = Set.of("String", "StringBuilder", "ArrayList");
    private static final Map<String, Set<String>> LIBRARY = Map.ofEntries(
        Map.entry("String", Set.of("length", "charAt", "isEmpty", "equals", "indexOf", "substring", "toCharArray")),
        Map.entry("StringBuilder", Set.of("append", "charAt", "setCharAt", "setLength", "deleteCharAt", "reverse",
            "length", "toString")),
        Map.entry("ArrayList", Set.of("add", "get", "set", "remove", "size", "isEmpty", "clear")),
        Map.entry("List", Set.of("add", "get", "set", "remove", "size", "isEmpty", "clear", "of")),
        Map.entry("Iterator", Set.of("hasNext", "next")), Map.entry("Iterable", Set.of("iterator")),
        Map.entry("Comparable", Set.of("compareTo")), Map.entry("System", Set.of("arraycopy")),
        Map.entry("Arrays", Set.of("copyOf", "copyOfRange", "fill")), Map.entry("Array", Set.of("clone")),
        Map.entry("Enum", Set.of("ordinal")));
    /** Of these all static functions over int and long, but for those that throw. */
    private static final Set<String> NUMBERS = Set.of("Integer", "Long", "Math");
    private static final Set<TypeKind> WHOLE = Set.of(TypeKind.INT, TypeKind.LONG, TypeKind.BOOLEAN);
    private static final int MOST_PARAMETERS = 7;
    private static final int DEEPEST_CALLS = 8;
    /** The rules say "some" 60, 12 and 20. */
    private static final int MOST_LINES = 66, MOST_CLASSES = 14, MOST_FIELDS = 22;

    private final Check check = new Check();
    private final Trees trees;
    private final CompilationUnitTree unit;
    private final Map<Element, Set<Element>> calls = new HashMap<>();
    private Element caller = null;
    private int classes = 0;

    private LanguageTest(Trees trees, CompilationUnitTree unit) {
        this.trees = trees;
        this.unit = unit;
    }

    public static void main(String[] args) throws Exception {
        JavaCompiler compiler = ToolProvider.getSystemJavaCompiler();
        try (StandardJavaFileManager files = compiler.getStandardFileManager(null, null, null)) {
            JavacTask task = (JavacTask) compiler.getTask(null, files, null, List.of("-proc:none"), null,
                files.getJavaFileObjects(SOURCE));
            CompilationUnitTree unit = task.parse().iterator().next();
            task.analyze();
            LanguageTest test = new LanguageTest(Trees.instance(task), unit);
            test.check.due("types outside any other", unit.getTypeDecls().size(), 1);
            test.check.due("package lines", unit.getPackage() == null ? 0 : 1, 0);
            test.scan(unit, null);
            test.checkCalls();
            test.check.end();
        }
    }

    private void none(Tree tree, String what) {
        long position = trees.getSourcePositions().getStartPosition(unit, tree);
        check.due("line " + unit.getLineMap().getLineNumber(position) + ": " + what, 1, 0);
    }

    private void most(String what, long is, long most) {
        check.due(what + ": " + is + " is no more than " + most, Math.max(is, most), most);
    }

    // ---- what there is none of

    @Override
    public Void visitImport(ImportTree tree, Void none) {
        if (tree.isStatic() || !IMPORTS.contains(tree.getQualifiedIdentifier().toString())) {
            none(tree, "import of " + tree.getQualifiedIdentifier());
        }
        return null;
    }

    @Override
    public Void visitThrow(ThrowTree tree, Void none) {
        none(tree, "throw");
        return super.visitThrow(tree, none);
    }

    @Override
    public Void visitTry(TryTree tree, Void none) {
        none(tree, "try");
        return super.visitTry(tree, none);
    }

    @Override
    public Void visitAssert(AssertTree tree, Void none) {
        none(tree, "assert");
        return super.visitAssert(tree, none);
    }

    @Override
    public Void visitSynchronized(SynchronizedTree tree, Void none) {
        none(tree, "synchronized");
        return super.visitSynchronized(tree, none);
    }

    @Override
    public Void visitLambdaExpression(LambdaExpressionTree tree, Void none) {
        none(tree, "lambda");
        return super.visitLambdaExpression(tree, none);
    }

    @Override
    public Void visitMemberReference(MemberReferenceTree tree, Void none) {
        none(tree, "method reference");
        return super.visitMemberReference(tree, none);
    }

    @Override
    public Void visitLiteral(LiteralTree tree, Void none) {
        if (tree.getValue() instanceof String text) {
            for (int i = 0; i < text.length(); i++) {
                check.due("sign of a text", text.charAt(i) >= 1 && text.charAt(i) <= 127 ? 1 : 0, 1);
            }
        }
        return super.visitLiteral(tree, none);
    }

    @Override
    public Void visitBinary(BinaryTree tree, Void none) {
        if (tree.getKind() == Tree.Kind.PLUS && isText(trees.getTypeMirror(getCurrentPath()))) {
            none(tree, "texts joined by +");
        }
        return super.visitBinary(tree, none);
    }

    @Override
    public Void visitCompoundAssignment(CompoundAssignmentTree tree, Void none) {
        if (isText(trees.getTypeMirror(getCurrentPath()))) {
            none(tree, "texts joined by +=");
        }
        return super.visitCompoundAssignment(tree, none);
    }

    private static boolean isText(TypeMirror type) {
        return type != null && type.toString().equals("java.lang.String");
    }

    // ---- classes, variables

    @Override
    public Void visitClass(ClassTree tree, Void none) {
        TypeElement type = (TypeElement) trees.getElement(getCurrentPath());
        boolean isOuter = type.getNestingKind() == NestingKind.TOP_LEVEL;
        boolean isInside = type.getNestingKind() == NestingKind.MEMBER && type.getModifiers().contains(Modifier.STATIC);
        check.due(type + " is outermost or static inside", isOuter || isInside ? 1 : 0, 1);
        classes++;
        most("classes", classes, MOST_CLASSES);
        int fields = 0;
        for (Tree member : tree.getMembers()) {
            if (member instanceof BlockTree) {
                none(member, "initialiser block");
            }
            if (member instanceof VariableTree field) {
                fields += isStatic(field) ? 0 : 1;
            }
        }
        most("fields of " + type, fields, MOST_FIELDS);
        return super.visitClass(tree, none);
    }

    private boolean isStatic(VariableTree field) {
        Set<Modifier> flags = field.getModifiers().getFlags();
        if (flags.contains(Modifier.STATIC) && !flags.contains(Modifier.FINAL)) {
            none(field, "static and not final");
        }
        return flags.contains(Modifier.STATIC);
    }

    @Override
    public Void visitVariable(VariableTree tree, Void none) {
        TypeMirror type = trees.getElement(getCurrentPath()).asType();
        if (!isTaken(type)) {
            none(tree, "type " + type);
        }
        return super.visitVariable(tree, none);
    }

    private static boolean isTaken(TypeMirror type) {
        if (type.getKind().isPrimitive() || type.getKind() == TypeKind.TYPEVAR || isOwn(type)) {
            return true;
        }
        if (type instanceof ArrayType row) {
            TypeMirror item = row.getComponentType();
            boolean isRowOfNumbers = item instanceof ArrayType inner && inner.getComponentType().getKind().isPrimitive();
            return isRowOfNumbers || !(item instanceof ArrayType) && isTaken(item);
        }
        if (type instanceof DeclaredType declared) {
            boolean isTaken = TYPES.contains(declared.asElement().getSimpleName().toString());
            for (TypeMirror argument : declared.getTypeArguments()) {
                isTaken = isTaken && isTaken(argument);
            }
            return isTaken;
        }
        return false;
    }

    private static boolean isOwn(TypeMirror type) {
        return type.toString().equals("ThawGives") || type.toString().startsWith("ThawGives.");
    }

    // ---- methods, calls

    @Override
    public Void visitMethod(MethodTree tree, Void none) {
        most("parameters of " + tree.getName(), tree.getParameters().size(), MOST_PARAMETERS);
        most("lines of " + tree.getName(), tree.toString().trim().split("\n").length, MOST_LINES);
        Element before = caller;
        caller = trees.getElement(getCurrentPath());
        calls.put(caller, new HashSet<>());
        super.visitMethod(tree, none);
        caller = before;
        return null;
    }

    @Override
    public Void visitNewClass(NewClassTree tree, Void none) {
        if (tree.getClassBody() != null) {
            none(tree, "anonymous class");
        }
        TypeMirror type = trees.getTypeMirror(getCurrentPath());
        if (type instanceof DeclaredType declared && !isOwn(type)) {
            String name = declared.asElement().getSimpleName().toString();
            check.due("new " + name, MADE.contains(name) ? 1 : 0, 1);
        }
        return super.visitNewClass(tree, none);
    }

    @Override
    public Void visitMethodInvocation(MethodInvocationTree tree, Void none) {
        Element called = trees.getElement(getCurrentPath());
        if (called.getKind() == ElementKind.METHOD && !isOwn(called.getEnclosingElement().asType())) {
            String owner = called.getEnclosingElement().getSimpleName().toString();
            check.due("library: " + owner + "." + called, isInLibrary(owner, (ExecutableElement) called) ? 1 : 0, 1);
        }
        if (caller != null && called instanceof ExecutableElement) {
            calls.get(caller).add(called);
        }
        return super.visitMethodInvocation(tree, none);
    }

    private static boolean isInLibrary(String owner, ExecutableElement method) {
        String name = method.getSimpleName().toString();
        if (!NUMBERS.contains(owner)) {
            return LIBRARY.getOrDefault(owner, Set.of()).contains(name);
        }
        boolean isWhole = WHOLE.contains(method.getReturnType().getKind());
        for (VariableElement parameter : method.getParameters()) {
            isWhole = isWhole && WHOLE.contains(parameter.asType().getKind());
        }
        return isWhole && method.getModifiers().contains(Modifier.STATIC) && !name.endsWith("Exact");
    }

    /** Calls that are no recursion go at most eight deep; what calls itself again is no part of the face. */
    private void checkCalls() {
        for (Element method : calls.keySet()) {
            most("calls from " + method, depthFrom(method), DEEPEST_CALLS);
            boolean isOfFace = method.getModifiers().contains(Modifier.PUBLIC) && !isInside(method);
            boolean isRecursive = reachedFrom(method).contains(method);
            check.due(method + " of the face calls itself again", isOfFace && isRecursive ? 1 : 0, 0);
        }
    }

    private static boolean isInside(Element method) {
        return ((TypeElement) method.getEnclosingElement()).getNestingKind() == NestingKind.MEMBER;
    }

    private Set<Element> reachedFrom(Element method) {
        Set<Element> reached = new HashSet<>();
        reach(method, reached);
        return reached;
    }

    private void reach(Element method, Set<Element> reached) {
        for (Element called : calls.getOrDefault(method, Set.of())) {
            if (reached.add(called)) {
                reach(called, reached);
            }
        }
    }

    /** Those that call one another again count as one. */
    private int depthFrom(Element method) {
        Set<Element> ring = new HashSet<>(Set.of(method));
        for (Element reached : reachedFrom(method)) {
            if (reachedFrom(reached).contains(method)) {
                ring.add(reached);
            }
        }
        int deepest = 0;
        for (Element one : ring) {
            for (Element called : calls.getOrDefault(one, Set.of())) {
                deepest = Math.max(deepest, ring.contains(called) ? 0 : depthFrom(called));
            }
        }
        return deepest + 1;
    }
}
