import com.sun.source.tree.ArrayTypeTree;
import com.sun.source.tree.AssertTree;
import com.sun.source.tree.AssignmentTree;
import com.sun.source.tree.ClassTree;
import com.sun.source.tree.CompilationUnitTree;
import com.sun.source.tree.ExpressionTree;
import com.sun.source.tree.IdentifierTree;
import com.sun.source.tree.ImportTree;
import com.sun.source.tree.InstanceOfTree;
import com.sun.source.tree.LambdaExpressionTree;
import com.sun.source.tree.LiteralTree;
import com.sun.source.tree.MemberReferenceTree;
import com.sun.source.tree.MethodInvocationTree;
import com.sun.source.tree.MethodTree;
import com.sun.source.tree.NewArrayTree;
import com.sun.source.tree.NewClassTree;
import com.sun.source.tree.PrimitiveTypeTree;
import com.sun.source.tree.SynchronizedTree;
import com.sun.source.tree.ThrowTree;
import com.sun.source.tree.Tree;
import com.sun.source.tree.TryTree;
import com.sun.source.tree.VariableTree;
import com.sun.source.util.JavacTask;
import com.sun.source.util.TreeScanner;
import java.io.IOException;
import java.nio.file.Path;
import java.util.ArrayList;
import java.util.HashMap;
import java.util.HashSet;
import java.util.List;
import java.util.Map;
import java.util.Set;
import java.util.TreeSet;
import javax.lang.model.element.Modifier;
import javax.lang.model.type.TypeKind;
import javax.tools.JavaCompiler;
import javax.tools.StandardJavaFileManager;
import javax.tools.ToolProvider;

/** The rules of LANGUAGE.md, as far as the text of the class shows whether they are kept. */
public final class LanguageTest extends TreeScanner<Void, Void> {
    private static final Path SOURCE = Path.of("src/main/java/StreamWindows.java");

    private final CompilationUnitTree unit;
    private final Map<String, Set<String>> callsOf = new HashMap<>();
    private final Set<String> publicMethods = new HashSet<>();
    private final Set<String> privateMethods = new HashSet<>();
    private final Set<String> arrayFields = new HashSet<>();
    private String method = "";
    private int fields = 0;
    private int classes = 0;

    private LanguageTest(CompilationUnitTree unit) {
        this.unit = unit;
    }

    public static void main(String[] args) throws IOException {
        JavaCompiler compiler = ToolProvider.getSystemJavaCompiler();
        try (StandardJavaFileManager files = compiler.getStandardFileManager(null, null, null)) {
            JavacTask task = (JavacTask) compiler.getTask(null, files, null, List.of("-proc:none"),
                    null, files.getJavaFileObjects(SOURCE));
            for (CompilationUnitTree unit : task.parse()) {
                LanguageTest test = new LanguageTest(unit);
                test.scan(unit, null);
                test.wholeClass();
            }
        }
        Due.end();
    }

    private void broken(int rule, Tree where) {
        Due.sentence("LANGUAGE.md, rule " + rule);
        Due.is("in " + method + ": " + where, 0, 1);
    }

    private void wholeClass() {
        Due.sentence("LANGUAGE.md, rule 1");
        Due.is("one class", classes, 1);
        Due.is("no package line", unit.getPackage() == null ? 0 : 1, 0);
        Set<String> both = new TreeSet<>(publicMethods);
        both.retainAll(privateMethods);
        Due.is("private methods that bear the name of a public one " + both, both.size(), 0);
        Due.sentence("LANGUAGE.md, rule 3");
        for (Set<String> called : callsOf.values()) {
            Set<String> others = new TreeSet<>(called);
            others.removeAll(callsOf.keySet());
            Due.is("called, but not of the class " + others, others.size(), 0);
        }
        Due.sentence("LANGUAGE.md, rules 8 and 10");
        for (String name : callsOf.keySet()) {
            int depth = depthOf(name, new ArrayList<>());
            Due.is(name + " calls " + depth + " deep, six at most", depth <= 6 ? 1 : 0, 1);
        }
        Due.is(fields + " fields beside the constants, forty at most", fields <= 40 ? 1 : 0, 1);
    }

    private int depthOf(String name, List<String> above) {
        if (above.contains(name)) {
            Due.is("recursion: " + above + " to " + name, 1, 0);
            return 0;
        }
        List<String> path = new ArrayList<>(above);
        path.add(name);
        int deepest = 0;
        for (String called : callsOf.getOrDefault(name, Set.of())) {
            deepest = Math.max(deepest, depthOf(called, path));
        }
        return deepest + 1;
    }

    @Override
    public Void visitClass(ClassTree tree, Void none) {
        classes++;
        for (Tree member : tree.getMembers()) {
            if (member instanceof VariableTree) {
                field((VariableTree) member);
            }
            if (member.getKind() == Tree.Kind.BLOCK) {
                broken(5, member);
            }
        }
        return super.visitClass(tree, none);
    }

    private void field(VariableTree tree) {
        Set<Modifier> flags = tree.getModifiers().getFlags();
        boolean isArray = tree.getType() instanceof ArrayTypeTree;
        if (isArray) {
            arrayFields.add(tree.getName().toString());
        }
        if (!flags.contains(Modifier.STATIC)) {
            fields++;
        } else if (isArray || !flags.contains(Modifier.FINAL)
                || tree.getInitializer() == null) {
            broken(5, tree);
        }
    }

    @Override
    public Void visitMethod(MethodTree tree, Void none) {
        method = tree.getName().toString();
        callsOf.computeIfAbsent(method, name -> new HashSet<>());
        boolean isPrivate = tree.getModifiers().getFlags().contains(Modifier.PRIVATE);
        (isPrivate ? privateMethods : publicMethods).add(method);
        if (tree.getParameters().size() > 7 || tree.toString().lines().count() > 60) {
            broken(10, tree);
        }
        if (tree.getReturnType() instanceof ArrayTypeTree) {
            broken(4, tree);
        }
        super.visitMethod(tree, none);
        method = "";
        return null;
    }

    @Override
    public Void visitVariable(VariableTree tree, Void none) {
        Tree type = tree.getType();
        if (type instanceof ArrayTypeTree) {
            type = ((ArrayTypeTree) type).getType();
        }
        TypeKind kind = type instanceof PrimitiveTypeTree
                ? ((PrimitiveTypeTree) type).getPrimitiveTypeKind() : TypeKind.ERROR;
        if (!kind.isPrimitive() || kind == TypeKind.FLOAT || kind == TypeKind.DOUBLE) {
            broken(2, tree);
        }
        return super.visitVariable(tree, none);
    }

    @Override
    public Void visitLiteral(LiteralTree tree, Void none) {
        switch (tree.getKind()) {
            case INT_LITERAL, LONG_LITERAL, CHAR_LITERAL, BOOLEAN_LITERAL -> { }
            default -> broken(tree.getKind() == Tree.Kind.NULL_LITERAL ? 4 : 2, tree);
        }
        return super.visitLiteral(tree, none);
    }

    @Override
    public Void visitMethodInvocation(MethodInvocationTree tree, Void none) {
        // The methods of the class are called by their names alone: what has a dot is a library's.
        boolean isOwn = tree.getMethodSelect() instanceof IdentifierTree;
        String name = tree.getMethodSelect().toString();
        if (!isOwn) {
            broken(3, tree);
        } else if (!name.equals("super")) {
            callsOf.computeIfAbsent(method, own -> new HashSet<>()).add(name);
        }
        for (ExpressionTree argument : tree.getArguments()) {
            argument.accept(new CallFinder(), tree);
        }
        return super.visitMethodInvocation(tree, none);
    }

    private final class CallFinder extends TreeScanner<Void, Tree> {
        @Override
        public Void visitMethodInvocation(MethodInvocationTree tree, Tree outer) {
            broken(10, outer);
            return null;
        }
    }

    @Override
    public Void visitNewArray(NewArrayTree tree, Void none) {
        // The constructor could make arrays too; that it makes none is the easiest way to keep to it.
        boolean hasOneLength = tree.getInitializers() == null && tree.getDimensions().size() == 1;
        if (!method.isEmpty() || !hasOneLength) {
            broken(4, tree);
        }
        return super.visitNewArray(tree, none);
    }

    @Override
    public Void visitNewClass(NewClassTree tree, Void none) {
        broken(4, tree);
        return super.visitNewClass(tree, none);
    }

    @Override
    public Void visitAssignment(AssignmentTree tree, Void none) {
        String target = tree.getVariable().toString().replace("this.", "");
        if (arrayFields.contains(target)) {
            broken(4, tree);
        }
        return super.visitAssignment(tree, none);
    }

    @Override
    public Void visitImport(ImportTree tree, Void none) {
        broken(3, tree);
        return null;
    }

    @Override
    public Void visitThrow(ThrowTree tree, Void none) {
        broken(6, tree);
        return null;
    }

    @Override
    public Void visitTry(TryTree tree, Void none) {
        broken(6, tree);
        return null;
    }

    @Override
    public Void visitSynchronized(SynchronizedTree tree, Void none) {
        broken(6, tree);
        return null;
    }

    @Override
    public Void visitAssert(AssertTree tree, Void none) {
        broken(6, tree);
        return null;
    }

    @Override
    public Void visitInstanceOf(InstanceOfTree tree, Void none) {
        broken(6, tree);
        return null;
    }

    @Override
    public Void visitLambdaExpression(LambdaExpressionTree tree, Void none) {
        broken(6, tree);
        return null;
    }

    @Override
    public Void visitMemberReference(MemberReferenceTree tree, Void none) {
        broken(6, tree);
        return null;
    }
}
