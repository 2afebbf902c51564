import com.sun.source.tree.AssertTree;
import com.sun.source.tree.AssignmentTree;
import com.sun.source.tree.BinaryTree;
import com.sun.source.tree.BlockTree;
import com.sun.source.tree.ClassTree;
import com.sun.source.tree.CompilationUnitTree;
import com.sun.source.tree.DoWhileLoopTree;
import com.sun.source.tree.EnhancedForLoopTree;
import com.sun.source.tree.ExpressionTree;
import com.sun.source.tree.ForLoopTree;
import com.sun.source.tree.IdentifierTree;
import com.sun.source.tree.InstanceOfTree;
import com.sun.source.tree.LambdaExpressionTree;
import com.sun.source.tree.LiteralTree;
import com.sun.source.tree.MemberReferenceTree;
import com.sun.source.tree.MemberSelectTree;
import com.sun.source.tree.MethodInvocationTree;
import com.sun.source.tree.MethodTree;
import com.sun.source.tree.NewArrayTree;
import com.sun.source.tree.NewClassTree;
import com.sun.source.tree.SynchronizedTree;
import com.sun.source.tree.ThrowTree;
import com.sun.source.tree.Tree;
import com.sun.source.tree.TryTree;
import com.sun.source.tree.TypeCastTree;
import com.sun.source.tree.VariableTree;
import com.sun.source.tree.WhileLoopTree;
import com.sun.source.util.JavacTask;
import com.sun.source.util.TreeScanner;
import java.io.IOException;
import java.net.URI;
import java.util.HashMap;
import java.util.HashSet;
import java.util.List;
import java.util.Map;
import java.util.Set;
import java.util.TreeSet;
import javax.lang.model.element.Modifier;
import javax.tools.JavaCompiler;
import javax.tools.JavaFileObject;
import javax.tools.SimpleJavaFileObject;
import javax.tools.ToolProvider;

/**
 * Reads a source of the class and names the rules of LANGUAGE.md that it breaks, as far as they can be seen in the
 * source. It is stricter than they are in three places, where the class needs no more: arrays are made in field
 * initialisers alone, each loop is a for with a condition and a step, and an array is never assigned.
 * Rule 7 is not one that a source shows; the tests that make the calls hold to it.
 */
final class LanguageRules extends TreeScanner<Void, Void> {
    private static final Set<String> NUMBERS = Set.of("int", "long", "short", "byte", "char", "boolean");
    private static final int MOST_PARAMETERS = 7;
    private static final int MOST_LINES = 60;
    private static final int DEEPEST = 6;
    private static final int MOST_FIELDS = 40;

    private final TreeSet<String> broken = new TreeSet<>();
    private final Set<String> constants = new HashSet<>();
    private final Set<String> arrays = new HashSet<>();
    private final Map<String, Set<String>> calls = new HashMap<>();
    private String method = "";
    private int fields = 0;
    private boolean inArguments = false;

    private LanguageRules() {
    }

    /** What is broken, as lines 'rule n: what', in order. */
    static TreeSet<String> brokenBy(String source) throws IOException {
        JavaCompiler compiler = ToolProvider.getSystemJavaCompiler();
        JavaFileObject file = new SimpleJavaFileObject(URI.create("string:///ZipRecover.java"),
                JavaFileObject.Kind.SOURCE) {
            @Override
            public CharSequence getCharContent(boolean ignore) {
                return source;
            }
        };
        JavacTask task = (JavacTask) compiler.getTask(null, null, null, List.of("-proc:none"), null, List.of(file));
        LanguageRules rules = new LanguageRules();
        for (CompilationUnitTree unit : task.parse()) {
            rules.readUnit(unit);
        }
        rules.readCalls();
        return rules.broken;
    }

    private void breaks(int rule, String what) {
        broken.add("rule " + rule + ": " + what);
    }

    private void readUnit(CompilationUnitTree unit) {
        if (unit.getPackage() != null || unit.getTypeDecls().size() != 1) {
            breaks(1, "not one class without a package");
        }
        if (!unit.getImports().isEmpty()) {
            breaks(3, "an import");
        }
        for (Tree type : unit.getTypeDecls()) {
            if (type.getKind() == Tree.Kind.CLASS) {
                readClass((ClassTree) type);
            } else {
                breaks(1, "a type that is no class");
            }
        }
    }

    private void readClass(ClassTree type) {
        if (!type.getModifiers().getFlags().equals(Set.of(Modifier.PUBLIC, Modifier.FINAL))) {
            breaks(1, "the class is not public and final");
        }
        for (Tree member : type.getMembers()) {
            if (member instanceof VariableTree) {
                nameField((VariableTree) member);
            }
        }
        if (fields > MOST_FIELDS) {
            breaks(10, fields + " fields");
        }
        for (Tree member : type.getMembers()) {
            if (member instanceof VariableTree) {
                readField((VariableTree) member);
            } else if (member instanceof MethodTree) {
                scan(member, null);
            } else if (member instanceof BlockTree) {
                breaks(5, "an initialiser block");
            } else {
                breaks(1, "a nested type");
            }
        }
    }

    private void nameField(VariableTree field) {
        if (field.getModifiers().getFlags().contains(Modifier.STATIC)) {
            constants.add(field.getName().toString());
        } else {
            fields++;
        }
    }

    private void readField(VariableTree field) {
        Set<Modifier> flags = field.getModifiers().getFlags();
        String type = field.getType().toString();
        boolean open = !flags.contains(Modifier.PRIVATE);
        if (open && !flags.equals(Set.of(Modifier.PUBLIC, Modifier.STATIC, Modifier.FINAL))) {
            breaks(1, field.getName() + " is open and no constant");
        }
        if (flags.contains(Modifier.STATIC)) {
            boolean number = type.equals("int") || type.equals("long");
            if (!number || !flags.contains(Modifier.FINAL) || field.getInitializer() == null) {
                breaks(5, field.getName() + " is static and no constant of int or long");
            }
        }
        readType(field.getType());
        if (field.getInitializer() instanceof NewArrayTree) {
            arrays.add(field.getName().toString());
            readNewArray((NewArrayTree) field.getInitializer());
        } else {
            scan(field.getInitializer(), null);
        }
    }

    private void readType(Tree type) {
        String words = type == null ? "var" : type.toString();
        String number = words.endsWith("[]") ? words.substring(0, words.length() - 2) : words;
        if (!NUMBERS.contains(number)) {
            breaks(2, "the type " + words);
        }
    }

    private void readNewArray(NewArrayTree array) {
        if (array.getInitializers() != null || array.getDimensions().size() != 1) {
            breaks(4, "an array made without one length");
            return;
        }
        ExpressionTree size = array.getDimensions().get(0);
        boolean literal = size.getKind() == Tree.Kind.INT_LITERAL && !size.toString().equals("0");
        if (!literal && !constants.contains(size.toString())) {
            breaks(4, "an array of the length " + size);
        }
    }

    @Override
    public Void visitMethod(MethodTree tree, Void none) {
        method = tree.getName().toString();
        calls.computeIfAbsent(method, name -> new HashSet<>());
        if (tree.getReturnType() != null && !tree.getReturnType().toString().equals("void")) {
            readType(tree.getReturnType());
            if (tree.getReturnType().getKind() == Tree.Kind.ARRAY_TYPE) {
                breaks(4, method + " answers an array");
            }
        }
        if (tree.getParameters().size() > MOST_PARAMETERS) {
            breaks(10, method + " takes too many parameters");
        }
        if (tree.toString().split("\n").length > MOST_LINES) {
            breaks(10, method + " is too long");
        }
        if (!tree.getThrows().isEmpty() || !tree.getTypeParameters().isEmpty()) {
            breaks(6, method + " throws or has type parameters");
        }
        for (VariableTree parameter : tree.getParameters()) {
            scan(parameter, none);
        }
        return scan(tree.getBody(), none);
    }

    @Override
    public Void visitVariable(VariableTree tree, Void none) {
        readType(tree.getType());
        if (tree.getType() != null && tree.getType().getKind() == Tree.Kind.ARRAY_TYPE) {
            arrays.add(tree.getName().toString());
        }
        return scan(tree.getInitializer(), none);
    }

    @Override
    public Void visitMethodInvocation(MethodInvocationTree tree, Void none) {
        if (inArguments) {
            breaks(10, "in " + method + " a call in another's arguments");
        }
        String called = tree.getMethodSelect().toString().replaceFirst("^this\\.", "");
        if (!called.equals("super")) {
            calls.computeIfAbsent(method, name -> new HashSet<>()).add(called);
        }
        boolean before = inArguments;
        inArguments = true;
        scan(tree.getArguments(), none);
        inArguments = before;
        return null;
    }

    private void readCalls() {
        for (Map.Entry<String, Set<String>> caller : calls.entrySet()) {
            for (String called : caller.getValue()) {
                if (!calls.containsKey(called)) {
                    breaks(3, caller.getKey() + " calls " + called);
                }
            }
            int depth = depthOf(caller.getKey(), new HashSet<>());
            if (depth > DEEPEST) {
                breaks(10, "the calls of " + caller.getKey() + " go " + depth + " deep");
            }
        }
    }

    private int depthOf(String name, Set<String> above) {
        if (!above.add(name)) {
            breaks(8, name + " comes back to itself");
            return 0;
        }
        int below = 0;
        for (String called : calls.getOrDefault(name, Set.of())) {
            below = Math.max(below, depthOf(called, above));
        }
        above.remove(name);
        return below + 1;
    }

    @Override
    public Void visitMemberSelect(MemberSelectTree tree, Void none) {
        String whole = tree.getExpression().toString();
        boolean size = arrays.contains(whole) && tree.getIdentifier().contentEquals("length");
        if (!whole.equals("this") && !size) {
            breaks(3, tree + " in " + method);
        }
        return super.visitMemberSelect(tree, none);
    }

    @Override
    public Void visitLiteral(LiteralTree tree, Void none) {
        switch (tree.getKind()) {
            case NULL_LITERAL:
                breaks(4, "null in " + method);
                break;
            case STRING_LITERAL:
            case FLOAT_LITERAL:
            case DOUBLE_LITERAL:
                breaks(2, tree + " in " + method);
                break;
            default:
                break;
        }
        return null;
    }

    @Override
    public Void visitAssignment(AssignmentTree tree, Void none) {
        if (arrays.contains(tree.getVariable().toString().replaceFirst("^this\\.", ""))) {
            breaks(4, method + " assigns an array");
        }
        return super.visitAssignment(tree, none);
    }

    @Override
    public Void visitBinary(BinaryTree tree, Void none) {
        boolean compares = tree.getKind() == Tree.Kind.EQUAL_TO || tree.getKind() == Tree.Kind.NOT_EQUAL_TO;
        if (compares && (isArray(tree.getLeftOperand()) || isArray(tree.getRightOperand()))) {
            breaks(4, method + " compares an array");
        }
        return super.visitBinary(tree, none);
    }

    private boolean isArray(ExpressionTree tree) {
        return tree instanceof IdentifierTree && arrays.contains(tree.toString());
    }

    @Override
    public Void visitNewArray(NewArrayTree tree, Void none) {
        breaks(4, method + " makes an array");
        return null;
    }

    @Override
    public Void visitNewClass(NewClassTree tree, Void none) {
        breaks(4, method + " makes an object");
        return null;
    }

    @Override
    public Void visitClass(ClassTree tree, Void none) {
        breaks(1, "a class in " + method);
        return null;
    }

    @Override
    public Void visitForLoop(ForLoopTree tree, Void none) {
        if (tree.getCondition() == null || tree.getUpdate().isEmpty()) {
            breaks(8, "a for without a condition or a step in " + method);
        }
        return super.visitForLoop(tree, none);
    }

    @Override
    public Void visitWhileLoop(WhileLoopTree tree, Void none) {
        breaks(8, "a while in " + method);
        return super.visitWhileLoop(tree, none);
    }

    @Override
    public Void visitDoWhileLoop(DoWhileLoopTree tree, Void none) {
        breaks(8, "a do in " + method);
        return super.visitDoWhileLoop(tree, none);
    }

    @Override
    public Void visitEnhancedForLoop(EnhancedForLoopTree tree, Void none) {
        breaks(8, "a for over elements in " + method);
        return super.visitEnhancedForLoop(tree, none);
    }

    @Override
    public Void visitTypeCast(TypeCastTree tree, Void none) {
        if (!NUMBERS.contains(tree.getType().toString())) {
            breaks(6, "a cast in " + method);
        }
        return super.visitTypeCast(tree, none);
    }

    @Override
    public Void visitThrow(ThrowTree tree, Void none) {
        breaks(6, "throw in " + method);
        return super.visitThrow(tree, none);
    }

    @Override
    public Void visitTry(TryTree tree, Void none) {
        breaks(6, "try in " + method);
        return null;
    }

    @Override
    public Void visitSynchronized(SynchronizedTree tree, Void none) {
        breaks(6, "synchronized in " + method);
        return super.visitSynchronized(tree, none);
    }

    @Override
    public Void visitAssert(AssertTree tree, Void none) {
        breaks(6, "assert in " + method);
        return super.visitAssert(tree, none);
    }

    @Override
    public Void visitInstanceOf(InstanceOfTree tree, Void none) {
        breaks(6, "instanceof in " + method);
        return null;
    }

    @Override
    public Void visitLambdaExpression(LambdaExpressionTree tree, Void none) {
        breaks(6, "a lambda in " + method);
        return null;
    }

    @Override
    public Void visitMemberReference(MemberReferenceTree tree, Void none) {
        breaks(6, "a method reference in " + method);
        return null;
    }
}
