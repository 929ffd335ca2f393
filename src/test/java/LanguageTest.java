import com.sun.source.tree.ArrayTypeTree;
import com.sun.source.tree.ClassTree;
import com.sun.source.tree.CompilationUnitTree;
import com.sun.source.tree.ExpressionTree;
import com.sun.source.tree.ForLoopTree;
import com.sun.source.tree.MemberSelectTree;
import com.sun.source.tree.MethodInvocationTree;
import com.sun.source.tree.MethodTree;
import com.sun.source.tree.NewArrayTree;
import com.sun.source.tree.PrimitiveTypeTree;
import com.sun.source.tree.Tree;
import com.sun.source.tree.VariableTree;
import com.sun.source.util.JavacTask;
import com.sun.source.util.TreePath;
import com.sun.source.util.TreePathScanner;
import java.io.File;
import java.io.IOException;
import java.util.EnumSet;
import java.util.List;
import java.util.Map;
import java.util.Set;
import java.util.TreeMap;
import java.util.TreeSet;
import javax.lang.model.element.Modifier;
import javax.lang.model.type.TypeKind;
import javax.tools.JavaCompiler;
import javax.tools.StandardJavaFileManager;
import javax.tools.ToolProvider;

/** The rules of LANGUAGE.md that can be read off the program's text; narrower than the rules in places. */
public final class LanguageTest extends TreePathScanner<Void, Void> {
    private static final File SOURCE = new File("src/main/java/ObjectCalculus.java");
    private static final Set<Tree.Kind> BARRED = EnumSet.of(
        Tree.Kind.THROW, Tree.Kind.TRY, Tree.Kind.CATCH, Tree.Kind.SYNCHRONIZED, Tree.Kind.ASSERT,
        Tree.Kind.INSTANCE_OF, Tree.Kind.LAMBDA_EXPRESSION, Tree.Kind.MEMBER_REFERENCE, Tree.Kind.NULL_LITERAL,
        Tree.Kind.STRING_LITERAL, Tree.Kind.FLOAT_LITERAL, Tree.Kind.DOUBLE_LITERAL, Tree.Kind.NEW_CLASS,
        Tree.Kind.WHILE_LOOP, Tree.Kind.DO_WHILE_LOOP, Tree.Kind.ENHANCED_FOR_LOOP, Tree.Kind.IMPORT,
        Tree.Kind.INTERFACE, Tree.Kind.ENUM, Tree.Kind.RECORD, Tree.Kind.ANNOTATION, Tree.Kind.PARAMETERIZED_TYPE);

    private final CompilationUnitTree unit;
    private final Map<String, Set<String>> calls = new TreeMap<>();
    private final Set<String> publicMethods = new TreeSet<>();
    private final Set<String> privateMethods = new TreeSet<>();
    private int classes = 0;
    private int fields = 0;
    private String method = null;

    private LanguageTest(CompilationUnitTree unit) {
        this.unit = unit;
    }

    public static void main(String[] args) throws IOException {
        JavaCompiler compiler = ToolProvider.getSystemJavaCompiler();
        StandardJavaFileManager files = compiler.getStandardFileManager(null, null, null);
        JavacTask task = (JavacTask) compiler.getTask(null, files, null, null, null, files.getJavaFileObjects(SOURCE));
        for (CompilationUnitTree unit : task.parse()) {
            LanguageTest test = new LanguageTest(unit);
            test.scan(new TreePath(unit), null);
            test.whole();
        }
        Due.end();
    }

    private void whole() {
        Due.is("the file has no package line", unit.getPackageName() == null, true);
        Due.is("classes", classes, 1);
        Due.is("at most 40 fields", fields <= 40, true);
        for (String name : privateMethods) {
            Due.is(name + " is private and public", publicMethods.contains(name), false);
        }
        for (String name : calls.keySet()) {
            Due.is("calls from " + name + " go at most six deep", depthOf(name, 1) <= 6, true);
        }
    }

    /** Stops at seven, so that a recursion also ends and counts as too deep. */
    private int depthOf(String name, int depth) {
        int deepest = depth;
        for (String callee : calls.getOrDefault(name, Set.of())) {
            if (depth < 7) {
                deepest = Math.max(deepest, depthOf(callee, depth + 1));
            }
        }
        return deepest;
    }

    private void fault(Tree tree, String what) {
        Due.report("LANGUAGE.md: " + what + ": " + tree.toString().strip());
    }

    @Override
    public Void scan(Tree tree, Void none) {
        if (tree != null && BARRED.contains(tree.getKind())) {
            fault(tree, "barred");
        }
        return super.scan(tree, none);
    }

    @Override
    public Void visitClass(ClassTree tree, Void none) {
        classes++;
        for (Tree member : tree.getMembers()) {
            if (member.getKind() == Tree.Kind.BLOCK) {
                fault(member, "an initialiser block");
            }
        }
        return super.visitClass(tree, none);
    }

    @Override
    public Void visitMethod(MethodTree tree, Void none) {
        method = tree.getName().toString();
        calls.putIfAbsent(method, new TreeSet<>());
        boolean isPrivate = tree.getModifiers().getFlags().contains(Modifier.PRIVATE);
        (isPrivate ? privateMethods : publicMethods).add(method);
        if (tree.getParameters().size() > 7) {
            fault(tree, "more than seven parameters");
        }
        if (tree.toString().lines().count() > 60) {
            fault(tree, "more than sixty lines");
        }
        if (tree.getReturnType() instanceof ArrayTypeTree) {
            fault(tree, "an array as the answer");
        }
        super.visitMethod(tree, none);
        method = null;
        return none;
    }

    @Override
    public Void visitVariable(VariableTree tree, Void none) {
        Tree type = tree.getType();
        Tree cell = type instanceof ArrayTypeTree array ? array.getType() : type;
        if (!(cell instanceof PrimitiveTypeTree)) {
            fault(tree, "a type other than whole numbers, booleans and their arrays");
        } else if (Set.of(TypeKind.FLOAT, TypeKind.DOUBLE).contains(((PrimitiveTypeTree) cell).getPrimitiveTypeKind())) {
            fault(tree, "float or double");
        }
        Set<Modifier> flags = tree.getModifiers().getFlags();
        if (flags.contains(Modifier.STATIC) && (type instanceof ArrayTypeTree || !flags.contains(Modifier.FINAL))) {
            fault(tree, "a static field that is no constant");
        }
        if (method == null && !flags.contains(Modifier.STATIC)) {
            fields++;
        }
        if (method == null && type instanceof ArrayTypeTree && !flags.contains(Modifier.FINAL)) {
            fault(tree, "an array field that is not final");
        }
        return super.visitVariable(tree, none);
    }

    @Override
    public Void visitNewArray(NewArrayTree tree, Void none) {
        List<? extends ExpressionTree> lengths = tree.getDimensions();
        Set<Tree.Kind> plain = EnumSet.of(Tree.Kind.IDENTIFIER, Tree.Kind.INT_LITERAL);
        if (method != null || lengths.size() != 1 || !plain.contains(lengths.get(0).getKind())) {
            fault(tree, "an array made in a method or without a constant length");
        }
        return super.visitNewArray(tree, none);
    }

    @Override
    public Void visitForLoop(ForLoopTree tree, Void none) {
        String condition = String.valueOf(tree.getCondition());
        String update = tree.getUpdate().toString();
        String counter = update.replace("++", "").replace(";", "").strip();
        if (tree.getUpdate().size() != 1 || !update.contains("++") || !condition.contains(counter + " < ")) {
            fault(tree, "a loop without a counter against a bound");
        }
        return super.visitForLoop(tree, none);
    }

    @Override
    public Void visitMemberSelect(MemberSelectTree tree, Void none) {
        if (!tree.getExpression().toString().equals("this")) {
            fault(tree, "a name of another class, or an array's length");
        }
        return super.visitMemberSelect(tree, none);
    }

    @Override
    public Void visitMethodInvocation(MethodInvocationTree tree, Void none) {
        String callee = tree.getMethodSelect().toString();
        boolean superCall = callee.equals("super");
        if (!superCall && tree.getMethodSelect().getKind() != Tree.Kind.IDENTIFIER) {
            fault(tree, "a call of another class");
        }
        if (method == null) {
            fault(tree, "a call outside of a method");
        } else if (!superCall) {
            calls.get(method).add(callee);
        }
        for (ExpressionTree argument : tree.getArguments()) {
            if (holdsCall(argument)) {
                fault(tree, "a call inside the arguments of another");
            }
        }
        return super.visitMethodInvocation(tree, none);
    }

    private boolean holdsCall(ExpressionTree argument) {
        boolean[] found = {false};
        new com.sun.source.util.TreeScanner<Void, Void>() {
            @Override
            public Void visitMethodInvocation(MethodInvocationTree tree, Void none) {
                found[0] = true;
                return none;
            }
        }.scan(argument, null);
        return found[0];
    }
}
