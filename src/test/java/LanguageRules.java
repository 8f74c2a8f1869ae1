import com.sun.source.tree.*;
import com.sun.source.util.JavacTask;
import com.sun.source.util.TreeScanner;
import java.net.URI;
import java.util.ArrayList;
import java.util.HashMap;
import java.util.HashSet;
import java.util.List;
import java.util.Map;
import java.util.Set;
import javax.lang.model.element.Modifier;
import javax.lang.model.type.TypeKind;
import javax.tools.JavaFileObject;
import javax.tools.SimpleJavaFileObject;
import javax.tools.ToolProvider;

/**
 * Finds what breaks the rules of LANGUAGE.md in a source, as far as its text alone shows it.
 * Where a rule leaves a choice, the plainest form is asked for: arrays are final fields made in
 * place, and every loop is a for with a counter that its body leaves alone.
 */
final class LanguageRules extends TreeScanner<Void, Void> {
    private static final Set<TypeKind> TYPES = Set.of(TypeKind.INT, TypeKind.LONG, TypeKind.SHORT,
        TypeKind.BYTE, TypeKind.CHAR, TypeKind.BOOLEAN, TypeKind.VOID);
    private static final Set<Tree.Kind> FORBIDDEN = Set.of(Tree.Kind.THROW, Tree.Kind.TRY, Tree.Kind.CATCH,
        Tree.Kind.SYNCHRONIZED, Tree.Kind.ASSERT, Tree.Kind.INSTANCE_OF, Tree.Kind.LAMBDA_EXPRESSION,
        Tree.Kind.MEMBER_REFERENCE);
    private static final Set<Tree.Kind> NO_VALUES = Set.of(Tree.Kind.STRING_LITERAL, Tree.Kind.FLOAT_LITERAL,
        Tree.Kind.DOUBLE_LITERAL);
    private static final int MOST_PARAMETERS = 7;
    private static final int MOST_LINES = 60;
    private static final int MOST_DEEP = 6;
    private static final int MOST_FIELDS = 40;

    private final List<String> breaches = new ArrayList<>();
    private final Set<String> declared = new HashSet<>();
    private final Set<String> arrays = new HashSet<>();
    private final Map<String, Set<String>> calls = new HashMap<>();
    private String method = "";

    private LanguageRules() {
    }

    /** The breaches, each beginning with the number of its rule. */
    static List<String> breaches(String source) throws java.io.IOException {
        JavaFileObject file = new SimpleJavaFileObject(URI.create("string:///JumpPoints.java"),
                JavaFileObject.Kind.SOURCE) {
            @Override
            public CharSequence getCharContent(boolean ignoreEncodingErrors) {
                return source;
            }
        };
        JavacTask task = (JavacTask) ToolProvider.getSystemJavaCompiler()
            .getTask(null, null, null, null, null, List.of(file));
        LanguageRules rules = new LanguageRules();
        for (CompilationUnitTree unit : task.parse()) {
            rules.unit(unit);
        }
        return rules.breaches;
    }

    private void breach(int rule, Object what) {
        breaches.add(rule + ": " + what);
    }

    private void unit(CompilationUnitTree unit) {
        if (unit.getPackage() != null || unit.getTypeDecls().size() != 1) {
            breach(1, "not one class without a package");
        }
        if (!unit.getImports().isEmpty()) {
            breach(3, "import");
        }
        for (Tree type : unit.getTypeDecls()) {
            if (type instanceof ClassTree one && type.getKind() == Tree.Kind.CLASS) {
                theClass(one);
            } else {
                breach(1, type);
            }
        }
    }

    private void theClass(ClassTree one) {
        if (!one.getModifiers().getFlags().equals(Set.of(Modifier.PUBLIC, Modifier.FINAL))
                || one.getExtendsClause() != null || !one.getImplementsClause().isEmpty()
                || !one.getTypeParameters().isEmpty()) {
            breach(1, "class is not plain, public and final");
        }
        int fields = 0;
        for (Tree member : one.getMembers()) {
            if (member instanceof VariableTree field) {
                field(field);
                fields += isStatic(field.getModifiers()) ? 0 : 1;
            } else if (member instanceof BlockTree) {
                breach(5, "initialiser block");
            } else if (member instanceof ClassTree) {
                breach(1, "nested type");
            }
        }
        if (fields > MOST_FIELDS) {
            breach(10, fields + " fields");
        }
        methodNames(one);
        for (Tree member : one.getMembers()) {
            if (member instanceof MethodTree oneMethod) {
                theMethod(oneMethod, (int) oneMethod.toString().lines().count());
            }
        }
        callDepths();
    }

    private static boolean isStatic(ModifiersTree modifiers) {
        return modifiers.getFlags().contains(Modifier.STATIC);
    }

    private void field(VariableTree field) {
        declared.add(field.getName().toString());
        type(field.getType());
        Set<Modifier> flags = field.getModifiers().getFlags();
        if (isStatic(field.getModifiers())) {
            boolean whole = field.getType() instanceof PrimitiveTypeTree primitive
                && (primitive.getPrimitiveTypeKind() == TypeKind.INT || primitive.getPrimitiveTypeKind() == TypeKind.LONG);
            if (!whole || !flags.contains(Modifier.FINAL) || !isConstant(field.getInitializer())) {
                breach(5, field);
            }
        } else if (field.getType() instanceof ArrayTypeTree) {
            arrays.add(field.getName().toString());
            boolean made = field.getInitializer() instanceof NewArrayTree array
                && array.getInitializers() == null && array.getDimensions().size() == 1
                && isConstant(array.getDimensions().get(0));
            if (!made || !flags.contains(Modifier.FINAL)) {
                breach(4, field);
            }
        } else if (field.getInitializer() != null) {
            scan(field.getInitializer(), null);
        }
    }

    /** A whole number, a constant of the class, or a reckoning with these. */
    private boolean isConstant(Tree tree) {
        if (tree instanceof ParenthesizedTree inner) {
            return isConstant(inner.getExpression());
        }
        if (tree instanceof UnaryTree unary) {
            return isConstant(unary.getExpression());
        }
        if (tree instanceof BinaryTree binary) {
            return isConstant(binary.getLeftOperand()) && isConstant(binary.getRightOperand());
        }
        if (tree instanceof IdentifierTree name) {
            String text = name.getName().toString();
            return declared.contains(text) && text.equals(text.toUpperCase());
        }
        return tree != null && (tree.getKind() == Tree.Kind.INT_LITERAL || tree.getKind() == Tree.Kind.LONG_LITERAL);
    }

    private void methodNames(ClassTree one) {
        Set<String> open = new HashSet<>();
        Set<String> hidden = new HashSet<>();
        for (Tree member : one.getMembers()) {
            if (member instanceof MethodTree named) {
                String name = named.getName().toString();
                boolean isHidden = named.getModifiers().getFlags().contains(Modifier.PRIVATE);
                // An overloaded name would make the calls below ambiguous.
                if (!calls.containsKey(name)) {
                    calls.put(name, new HashSet<>());
                } else {
                    breach(1, "two methods " + name);
                }
                (isHidden ? hidden : open).add(name);
            }
        }
        hidden.retainAll(open);
        if (!hidden.isEmpty()) {
            breach(1, "private methods with public names: " + hidden);
        }
    }

    private void theMethod(MethodTree one, int lines) {
        method = one.getName().toString();
        if (one.getReturnType() != null) {
            type(one.getReturnType());
            if (one.getReturnType() instanceof ArrayTypeTree) {
                breach(4, method + " answers an array");
            }
        }
        if (one.getParameters().size() > MOST_PARAMETERS) {
            breach(10, method + " has too many parameters");
        }
        if (lines > MOST_LINES) {
            breach(10, method + " is too long");
        }
        if (!one.getThrows().isEmpty() || one.getModifiers().getFlags().contains(Modifier.SYNCHRONIZED)) {
            breach(6, method);
        }
        Set<String> outer = new HashSet<>(declared);
        scan(one.getParameters(), null);
        scan(one.getBody(), null);
        declared.clear();
        declared.addAll(outer);
    }

    private void type(Tree type) {
        Tree element = type instanceof ArrayTypeTree array ? array.getType() : type;
        if (!(element instanceof PrimitiveTypeTree primitive) || !TYPES.contains(primitive.getPrimitiveTypeKind())) {
            breach(2, "type " + type);
        }
    }

    @Override
    public Void scan(Tree tree, Void nothing) {
        if (tree != null && FORBIDDEN.contains(tree.getKind())) {
            breach(6, tree);
        }
        return super.scan(tree, nothing);
    }

    @Override
    public Void visitVariable(VariableTree variable, Void nothing) {
        declared.add(variable.getName().toString());
        type(variable.getType());
        return scan(variable.getInitializer(), nothing);
    }

    @Override
    public Void visitClass(ClassTree one, Void nothing) {
        breach(1, "nested type");
        return null;
    }

    @Override
    public Void visitLiteral(LiteralTree literal, Void nothing) {
        if (NO_VALUES.contains(literal.getKind())) {
            breach(2, literal);
        }
        if (literal.getKind() == Tree.Kind.NULL_LITERAL) {
            breach(4, "null");
        }
        return null;
    }

    @Override
    public Void visitTypeCast(TypeCastTree cast, Void nothing) {
        if (!(cast.getType() instanceof PrimitiveTypeTree)) {
            breach(6, cast);
        } else {
            type(cast.getType());
        }
        return scan(cast.getExpression(), nothing);
    }

    @Override
    public Void visitIdentifier(IdentifierTree name, Void nothing) {
        String text = name.getName().toString();
        // The compiler knows the rest by itself: classes of java.lang, and super.
        if (!declared.contains(text) && !text.equals("this")) {
            breach(3, text);
        }
        return null;
    }

    @Override
    public Void visitMemberSelect(MemberSelectTree select, Void nothing) {
        boolean own = select.getExpression().toString().equals("this");
        boolean length = select.getIdentifier().contentEquals("length")
            && arrays.contains(select.getExpression().toString());
        if (!own && !length) {
            breach(3, select);
        }
        return null;
    }

    @Override
    public Void visitNewClass(NewClassTree made, Void nothing) {
        breach(4, made);
        return null;
    }

    @Override
    public Void visitNewArray(NewArrayTree made, Void nothing) {
        breach(4, made);
        return null;
    }

    @Override
    public Void visitBinary(BinaryTree binary, Void nothing) {
        boolean compares = binary.getKind() == Tree.Kind.EQUAL_TO || binary.getKind() == Tree.Kind.NOT_EQUAL_TO;
        if (compares && (arrays.contains(binary.getLeftOperand().toString())
                || arrays.contains(binary.getRightOperand().toString()))) {
            breach(4, binary);
        }
        return super.visitBinary(binary, nothing);
    }

    @Override
    public Void visitMethodInvocation(MethodInvocationTree call, Void nothing) {
        String text = call.getMethodSelect().toString();
        boolean javasOwn = text.equals("super") && method.equals("<init>");
        if (calls.containsKey(text)) {
            calls.get(method).add(text);
        } else if (!javasOwn) {
            breach(3, "calls " + text);
        }
        for (ExpressionTree argument : call.getArguments()) {
            if (hasCall(argument)) {
                breach(10, "call inside the arguments of " + text);
            }
        }
        return scan(call.getArguments(), nothing);
    }

    private static boolean hasCall(Tree tree) {
        boolean[] found = {false};
        new TreeScanner<Void, Void>() {
            @Override
            public Void visitMethodInvocation(MethodInvocationTree call, Void nothing) {
                found[0] = true;
                return null;
            }
        }.scan(tree, null);
        return found[0];
    }

    @Override
    public Void visitWhileLoop(WhileLoopTree loop, Void nothing) {
        breach(8, "while without a counter of its own");
        return super.visitWhileLoop(loop, nothing);
    }

    @Override
    public Void visitDoWhileLoop(DoWhileLoopTree loop, Void nothing) {
        breach(8, "do without a counter of its own");
        return super.visitDoWhileLoop(loop, nothing);
    }

    @Override
    public Void visitForLoop(ForLoopTree loop, Void nothing) {
        String counter = loop.getInitializer().size() == 1 && loop.getInitializer().get(0) instanceof VariableTree one
            ? one.getName().toString() : "";
        String up = loop.getUpdate().toString();
        String condition = String.valueOf(loop.getCondition());
        boolean counts = up.equals(counter + "++;") && (condition.startsWith(counter + " < ")
            || condition.startsWith(counter + " <= "));
        if (!counts || assigns(loop.getStatement(), counter)) {
            breach(8, "for (.. " + condition + "; " + up + ")");
        }
        return super.visitForLoop(loop, nothing);
    }

    private static boolean assigns(Tree body, String name) {
        boolean[] found = {false};
        new TreeScanner<Void, Void>() {
            @Override
            public Void visitAssignment(AssignmentTree one, Void nothing) {
                found[0] |= one.getVariable().toString().equals(name);
                return super.visitAssignment(one, nothing);
            }

            @Override
            public Void visitCompoundAssignment(CompoundAssignmentTree one, Void nothing) {
                found[0] |= one.getVariable().toString().equals(name);
                return super.visitCompoundAssignment(one, nothing);
            }

            @Override
            public Void visitUnary(UnaryTree one, Void nothing) {
                boolean steps = one.getKind().name().endsWith("CREMENT");
                found[0] |= steps && one.getExpression().toString().equals(name);
                return super.visitUnary(one, nothing);
            }
        }.scan(body, null);
        return found[0];
    }

    /** Takes away, round by round, the methods that call none of those left: what stays is recursive. */
    private void callDepths() {
        Map<String, Set<String>> left = new HashMap<>(calls);
        for (int depth = 1; !left.isEmpty(); depth++) {
            Set<String> before = Set.copyOf(left.keySet());
            left.values().removeIf(called -> called.stream().noneMatch(before::contains));
            if (left.size() == before.size()) {
                breach(8, "recursion among " + before);
                return;
            }
            if (depth > MOST_DEEP) {
                breach(10, "calls are more than " + MOST_DEEP + " deep");
                return;
            }
        }
    }
}
