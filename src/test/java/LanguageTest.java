import com.sun.source.tree.AssertTree;
import com.sun.source.tree.BlockTree;
import com.sun.source.tree.ClassTree;
import com.sun.source.tree.CompilationUnitTree;
import com.sun.source.tree.EnhancedForLoopTree;
import com.sun.source.tree.ImportTree;
import com.sun.source.tree.InstanceOfTree;
import com.sun.source.tree.LambdaExpressionTree;
import com.sun.source.tree.LiteralTree;
import com.sun.source.tree.MemberReferenceTree;
import com.sun.source.tree.MethodInvocationTree;
import com.sun.source.tree.MethodTree;
import com.sun.source.tree.NewClassTree;
import com.sun.source.tree.SynchronizedTree;
import com.sun.source.tree.ThrowTree;
import com.sun.source.tree.Tree;
import com.sun.source.tree.TryTree;
import com.sun.source.tree.VariableTree;
import com.sun.source.util.JavacTask;
import com.sun.source.util.TreePathScanner;
import com.sun.source.util.Trees;
import java.nio.file.Path;
import java.util.HashMap;
import java.util.HashSet;
import java.util.List;
import java.util.Map;
import java.util.Set;
import java.util.TreeSet;
import javax.lang.model.element.Element;
import javax.lang.model.element.ElementKind;
import javax.lang.model.element.ExecutableElement;
import javax.lang.model.element.Modifier;
import javax.tools.JavaCompiler;
import javax.tools.StandardJavaFileManager;
import javax.tools.ToolProvider;

/**
 * What can be seen of LANGUAGE.md's rules in the text of ThawGives.java: no part of Java beyond them, no library
 * beyond what is used here, sizes, and how deep calls go. Started where the project's folder is the working one.
 */
public final class LanguageTest extends TreePathScanner<Void, Void> {
    private static final Path SOURCE = Path.of("src/main/java/ThawGives.java");
    private static final Set<String> TYPES = Set.of("int", "long", "short", "byte", "char", "boolean", "void",
        "String", "int[]", "long[]", "byte[]");
    private static final Set<String> LIBRARY = Set.of("Math.max", "Math.min", "Math.floorMod", "System.arraycopy",
        "String.length", "String.charAt", "String.indexOf");
    private static final int MOST_PARAMETERS = 7;
    private static final int MOST_LINES = 60;
    private static final int MOST_CLASSES = 12;
    private static final int MOST_FIELDS = 20;
    private static final int DEEPEST_CALLS = 8;

    private final Check check = new Check();
    private final Trees trees;
    private final CompilationUnitTree unit;
    private final Set<String> ownTypes = new HashSet<>();
    private final Map<Element, Set<Element>> calls = new HashMap<>();
    private Element caller = null;

    private LanguageTest(Trees trees, CompilationUnitTree unit) {
        this.trees = trees;
        this.unit = unit;
    }

    public static void main(String[] args) throws Exception {
        JavaCompiler compiler = ToolProvider.getSystemJavaCompiler();
        try (StandardJavaFileManager files = compiler.getStandardFileManager(null, null, null)) {
            JavacTask task = (JavacTask) compiler.getTask(null, files, null, List.of("-proc:none"), null,
                files.getJavaFileObjects(SOURCE));
            CompilationUnitTree unit = task.parse().iterator().next();
            task.analyze();
            LanguageTest test = new LanguageTest(Trees.instance(task), unit);
            test.check.due("types outside any other", unit.getTypeDecls().size(), 1);
            test.check.due("package lines", unit.getPackage() == null ? 0 : 1, 0);
            test.scan(unit, null);
            test.checkDepth();
            test.check.end();
        }
    }

    private void none(Tree tree, String what) {
        long position = trees.getSourcePositions().getStartPosition(unit, tree);
        check.due("line " + unit.getLineMap().getLineNumber(position) + ": " + what, 1, 0);
    }

    private void most(String what, long is, long most) {
        check.due(what + ": " + is + " is no more than " + most, Math.max(is, most), most);
    }

    @Override
    public Void visitImport(ImportTree tree, Void none) {
        none(tree, "import");
        return super.visitImport(tree, none);
    }

    @Override
    public Void visitThrow(ThrowTree tree, Void none) {
        none(tree, "throw");
        return super.visitThrow(tree, none);
    }

    @Override
    public Void visitTry(TryTree tree, Void none) {
        none(tree, "try");
        return super.visitTry(tree, none);
    }

    @Override
    public Void visitAssert(AssertTree tree, Void none) {
        none(tree, "assert");
        return super.visitAssert(tree, none);
    }

    @Override
    public Void visitSynchronized(SynchronizedTree tree, Void none) {
        none(tree, "synchronized");
        return super.visitSynchronized(tree, none);
    }

    @Override
    public Void visitLambdaExpression(LambdaExpressionTree tree, Void none) {
        none(tree, "lambda");
        return super.visitLambdaExpression(tree, none);
    }

    @Override
    public Void visitMemberReference(MemberReferenceTree tree, Void none) {
        none(tree, "method reference");
        return super.visitMemberReference(tree, none);
    }

    @Override
    public Void visitInstanceOf(InstanceOfTree tree, Void none) {
        none(tree, "instanceof, which is not used so far");
        return super.visitInstanceOf(tree, none);
    }

    @Override
    public Void visitEnhancedForLoop(EnhancedForLoopTree tree, Void none) {
        none(tree, "for over a row, which is not used so far");
        return super.visitEnhancedForLoop(tree, none);
    }

    @Override
    public Void visitNewClass(NewClassTree tree, Void none) {
        if (tree.getClassBody() != null) {
            none(tree, "anonymous class");
        }
        return super.visitNewClass(tree, none);
    }

    @Override
    public Void visitLiteral(LiteralTree tree, Void none) {
        if (tree.getKind() == Tree.Kind.NULL_LITERAL) {
            none(tree, "null, which is not used so far");
        }
        if (tree.getValue() instanceof String text) {
            for (int i = 0; i < text.length(); i++) {
                check.due("sign of a text", text.charAt(i) >= 1 && text.charAt(i) <= 127 ? 1 : 0, 1);
            }
        }
        return super.visitLiteral(tree, none);
    }

    @Override
    public Void visitClass(ClassTree tree, Void none) {
        boolean isOuter = getCurrentPath().getParentPath().getLeaf() == unit;
        boolean isStatic = tree.getModifiers().getFlags().contains(Modifier.STATIC);
        check.due(tree.getSimpleName() + " is outermost or static", isOuter || isStatic ? 1 : 0, 1);
        ownTypes.add(tree.getSimpleName().toString());
        most("classes", ownTypes.size(), MOST_CLASSES);
        int fields = 0;
        for (Tree member : tree.getMembers()) {
            if (member instanceof BlockTree) {
                none(member, "initialiser block");
            }
            if (member instanceof VariableTree field) {
                fields += isConstant(field) ? 0 : 1;
            }
        }
        most("fields of " + tree.getSimpleName(), fields, MOST_FIELDS);
        return super.visitClass(tree, none);
    }

    private boolean isConstant(VariableTree field) {
        Set<Modifier> flags = field.getModifiers().getFlags();
        if (flags.contains(Modifier.STATIC) && !flags.contains(Modifier.FINAL)) {
            none(field, "static and not final");
        }
        return flags.contains(Modifier.STATIC);
    }

    @Override
    public Void visitVariable(VariableTree tree, Void none) {
        String type = tree.getType().toString();
        String own = type.replace("[]", "");
        boolean isOwn = trees.getElement(getCurrentPath()).asType().toString().startsWith("ThawGives.");
        if (!TYPES.contains(type) && !isOwn) {
            none(tree, "type " + own);
        }
        return super.visitVariable(tree, none);
    }

    @Override
    public Void visitMethod(MethodTree tree, Void none) {
        most("parameters of " + tree.getName(), tree.getParameters().size(), MOST_PARAMETERS);
        most("lines of " + tree.getName(), tree.toString().split("\n").length, MOST_LINES);
        Element before = caller;
        caller = trees.getElement(getCurrentPath());
        calls.put(caller, new HashSet<>());
        super.visitMethod(tree, none);
        caller = before;
        return null;
    }

    @Override
    public Void visitMethodInvocation(MethodInvocationTree tree, Void none) {
        Element called = trees.getElement(getCurrentPath());
        String owner = called.getEnclosingElement().toString();
        if (called.getKind() == ElementKind.METHOD && !owner.startsWith("ThawGives")) {
            String name = called.getEnclosingElement().getSimpleName() + "." + called.getSimpleName();
            check.due("library: " + name, LIBRARY.contains(name) ? 1 : 0, 1);
        }
        if (caller != null && called instanceof ExecutableElement) {
            calls.get(caller).add(called);
        }
        return super.visitMethodInvocation(tree, none);
    }

    /** The longest chain of calls from any method on; methods that call one another again are gone through once. */
    private void checkDepth() {
        for (Element method : calls.keySet()) {
            most("calls from " + method, depthFrom(method, new HashSet<>()), DEEPEST_CALLS);
        }
        Set<String> recursive = new TreeSet<>();
        for (Element method : calls.keySet()) {
            if (reaches(method, method, new HashSet<>())) {
                recursive.add(method.getSimpleName().toString());
            }
        }
        check.due("recursive are " + recursive,
            recursive.equals(Set.of("takeEither", "takePart", "run", "answer")) ? 1 : 0, 1);
    }

    private int depthFrom(Element method, Set<Element> open) {
        if (!open.add(method)) {
            return 0;
        }
        int deepest = 0;
        for (Element called : calls.getOrDefault(method, Set.of())) {
            deepest = Math.max(deepest, depthFrom(called, open));
        }
        open.remove(method);
        return deepest + 1;
    }

    private boolean reaches(Element from, Element to, Set<Element> seen) {
        for (Element called : calls.getOrDefault(from, Set.of())) {
            if (called.equals(to) || seen.add(called) && reaches(called, to, seen)) {
                return true;
            }
        }
        return false;
    }
}
