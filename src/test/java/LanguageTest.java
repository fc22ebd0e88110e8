import com.sun.source.tree.ArrayAccessTree;
import com.sun.source.tree.ArrayTypeTree;
import com.sun.source.tree.ClassTree;
import com.sun.source.tree.CompilationUnitTree;
import com.sun.source.tree.ForLoopTree;
import com.sun.source.tree.IdentifierTree;
import com.sun.source.tree.MemberSelectTree;
import com.sun.source.tree.MethodInvocationTree;
import com.sun.source.tree.MethodTree;
import com.sun.source.tree.NewArrayTree;
import com.sun.source.tree.PrimitiveTypeTree;
import com.sun.source.tree.Tree;
import com.sun.source.tree.Tree.Kind;
import com.sun.source.tree.TypeCastTree;
import com.sun.source.tree.UnaryTree;
import com.sun.source.tree.VariableTree;
import com.sun.source.util.JavacTask;
import com.sun.source.util.TreeScanner;
import java.io.IOException;
import java.nio.file.Path;
import java.util.EnumSet;
import java.util.Map;
import java.util.Set;
import java.util.TreeMap;
import java.util.TreeSet;
import javax.lang.model.element.Modifier;
import javax.lang.model.type.TypeKind;
import javax.tools.JavaCompiler;
import javax.tools.StandardJavaFileManager;
import javax.tools.ToolProvider;

/**
 * The source keeps to those rules of LANGUAGE.md that its tree shows. Where a rule is hard to see, this lets
 * through less than the rule: loops are for loops with a condition, and arrays are fields, made where they are
 * declared and used by index alone. Rule 7 is left to the tests that call, the visible members to FaceTest.
 */
public final class LanguageTest extends TreeScanner<Void, Void> {
    private static final Path SOURCE = Path.of("src/main/java/FrequentSets.java");
    private static final int MOST_PARAMETERS = 7;
    private static final int MOST_LINES = 60;
    private static final int MOST_DEPTH = 6;
    private static final int MOST_FIELDS = 40;
    private static final Set<Kind> RULED_OUT = EnumSet.of(
            Kind.INTERFACE, Kind.ENUM, Kind.RECORD, Kind.ANNOTATION_TYPE, Kind.ANNOTATION,
            Kind.NEW_CLASS, Kind.PARAMETERIZED_TYPE, Kind.MEMBER_REFERENCE, Kind.LAMBDA_EXPRESSION,
            Kind.STRING_LITERAL, Kind.NULL_LITERAL, Kind.FLOAT_LITERAL, Kind.DOUBLE_LITERAL,
            Kind.THROW, Kind.TRY, Kind.CATCH, Kind.SYNCHRONIZED, Kind.ASSERT, Kind.INSTANCE_OF,
            Kind.WHILE_LOOP, Kind.DO_WHILE_LOOP, Kind.ENHANCED_FOR_LOOP);

    private final Due due = new Due();
    private final Map<String, Set<String>> calls = new TreeMap<>();
    private final Set<String> constants = new TreeSet<>();
    private final Set<String> arrays = new TreeSet<>();
    /** Empty outside of methods. */
    private String method = "";
    private boolean insideArguments;

    public static void main(String[] args) throws IOException {
        LanguageTest test = new LanguageTest();
        JavaCompiler compiler = ToolProvider.getSystemJavaCompiler();
        try (StandardJavaFileManager files = compiler.getStandardFileManager(null, null, null)) {
            JavacTask task = (JavacTask) compiler.getTask(
                    null, files, null, null, null, files.getJavaFileObjects(SOURCE));
            for (CompilationUnitTree unit : task.parse()) {
                test.scan(unit, null);
            }
        }
        test.lookAtDepths();
        test.due.end();
    }

    private void rule(int number, String words, boolean kept) {
        due.is("rule " + number + ": " + words + (method.isEmpty() ? "" : ", in " + method), kept ? 1 : 0, 1);
    }

    @Override
    public Void scan(Tree tree, Void none) {
        if (tree != null && RULED_OUT.contains(tree.getKind())) {
            rule(6, "(or 1, 2, 3, 8) " + tree.getKind() + " " + tree, false);
        }
        return super.scan(tree, none);
    }

    @Override
    public Void visitCompilationUnit(CompilationUnitTree unit, Void none) {
        rule(1, "no package line", unit.getPackage() == null);
        rule(1, "one class in the file", unit.getTypeDecls().size() == 1);
        rule(3, "nothing is imported", unit.getImports().isEmpty());
        return super.visitCompilationUnit(unit, none);
    }

    @Override
    public Void visitClass(ClassTree owner, Void none) {
        rule(1, "the class of the document alone", owner.getSimpleName().contentEquals("FrequentSets"));
        rule(1, "public and final",
                owner.getModifiers().getFlags().equals(EnumSet.of(Modifier.PUBLIC, Modifier.FINAL)));
        rule(1, "no superclass and no interface",
                owner.getExtendsClause() == null && owner.getImplementsClause().isEmpty());
        int fields = 0;
        for (Tree member : owner.getMembers()) {
            if (member instanceof VariableTree field) {
                fields += lookAtField(field) ? 1 : 0;
            } else {
                rule(5, "no initialiser and no nested class", member instanceof MethodTree);
            }
        }
        rule(10, "at most some forty fields", fields <= MOST_FIELDS);
        return super.visitClass(owner, none);
    }

    /** Answers whether the field is one beside the constants. */
    private boolean lookAtField(VariableTree field) {
        Set<Modifier> flags = field.getModifiers().getFlags();
        String name = field.getName().toString();
        if (flags.contains(Modifier.STATIC)) {
            constants.add(name);
            rule(5, name + " is final", flags.contains(Modifier.FINAL));
            rule(5, name + " is an int or a long", Set.of("int", "long").contains(field.getType().toString()));
            rule(5, name + " is given as a number", isNumber(field.getInitializer()));
            return false;
        }
        rule(1, name + " is private", flags.contains(Modifier.PRIVATE));
        if (field.getType() instanceof ArrayTypeTree) {
            arrays.add(name);
            rule(4, name + " is made where it is declared", field.getInitializer() instanceof NewArrayTree);
            rule(4, name + " is final", flags.contains(Modifier.FINAL));
        }
        return true;
    }

    private static boolean isNumber(Tree tree) {
        Tree number = tree instanceof UnaryTree sign ? sign.getExpression() : tree;
        return number != null && (number.getKind() == Kind.INT_LITERAL || number.getKind() == Kind.LONG_LITERAL);
    }

    @Override
    public Void visitMethod(MethodTree tree, Void none) {
        method = tree.getName().toString();
        rule(1, "no other method has its name", calls.put(method, new TreeSet<>()) == null);
        rule(2, "answers a number or a truth value",
                method.equals("<init>") || tree.getReturnType() instanceof PrimitiveTypeTree);
        rule(10, "at most seven parameters", tree.getParameters().size() <= MOST_PARAMETERS);
        rule(10, "some sixty lines at most", tree.toString().lines().count() <= MOST_LINES);
        super.visitMethod(tree, none);
        method = "";
        return null;
    }

    @Override
    public Void visitVariable(VariableTree variable, Void none) {
        Tree type = variable.getType();
        boolean isArray = method.isEmpty() && type instanceof ArrayTypeTree array
                && array.getType() instanceof PrimitiveTypeTree;
        rule(2, variable.getName() + " has a plain type", isArray || type instanceof PrimitiveTypeTree);
        return super.visitVariable(variable, none);
    }

    @Override
    public Void visitPrimitiveType(PrimitiveTypeTree type, Void none) {
        TypeKind kind = type.getPrimitiveTypeKind();
        rule(2, "no float or double", kind != TypeKind.FLOAT && kind != TypeKind.DOUBLE);
        return null;
    }

    @Override
    public Void visitTypeCast(TypeCastTree cast, Void none) {
        rule(6, "casts between number types alone", cast.getType() instanceof PrimitiveTypeTree);
        return super.visitTypeCast(cast, none);
    }

    @Override
    public Void visitNewArray(NewArrayTree made, Void none) {
        rule(4, "a method makes no array", method.isEmpty());
        boolean oneLength = made.getDimensions().size() == 1 && made.getInitializers() == null;
        rule(4, "an array has one length", oneLength);
        for (Tree length : made.getDimensions()) {
            rule(4, "the length " + length + " is a number", isNumber(length) || constants.contains(length.toString()));
        }
        return super.visitNewArray(made, none);
    }

    @Override
    public Void visitArrayAccess(ArrayAccessTree access, Void none) {
        rule(4, access + " looks into a field", arrays.contains(access.getExpression().toString()));
        return scan(access.getIndex(), none);
    }

    /** What is looked into by index does not come here: visitArrayAccess passes its name by. */
    @Override
    public Void visitIdentifier(IdentifierTree name, Void none) {
        String text = name.getName().toString();
        rule(4, text + " is used by index alone", !arrays.contains(text));
        rule(3, text + " is no other class", !Character.isUpperCase(text.charAt(0)) || constants.contains(text));
        return null;
    }

    @Override
    public Void visitMemberSelect(MemberSelectTree select, Void none) {
        rule(3, select + " reaches outside of the class", false);
        return null;
    }

    @Override
    public Void visitMethodInvocation(MethodInvocationTree call, Void none) {
        String called = call.getMethodSelect().toString();
        rule(10, called + " is not called inside arguments", !insideArguments);
        if (called.equals("super")) {
            return null;
        }
        calls.get(method).add(called);
        boolean before = insideArguments;
        insideArguments = true;
        scan(call.getArguments(), none);
        insideArguments = before;
        return null;
    }

    @Override
    public Void visitForLoop(ForLoopTree loop, Void none) {
        rule(8, "a loop has a condition", loop.getCondition() != null);
        rule(8, "a loop counts on", loop.getUpdate().size() == 1);
        return super.visitForLoop(loop, none);
    }

    private void lookAtDepths() {
        for (Map.Entry<String, Set<String>> entry : calls.entrySet()) {
            for (String called : entry.getValue()) {
                rule(3, called + " is a method of the class", calls.containsKey(called));
            }
            rule(8, "(and 10) no recursion, at most six calls deep, from " + entry.getKey(),
                    depthFrom(entry.getKey(), 1) <= MOST_DEPTH);
        }
    }

    /** A recursion has no end to its depth, so the count stops just above the greatest depth allowed. */
    private int depthFrom(String name, int depth) {
        int deepest = depth;
        if (depth <= MOST_DEPTH) {
            for (String called : calls.getOrDefault(name, Set.of())) {
                deepest = Math.max(deepest, depthFrom(called, depth + 1));
            }
        }
        return deepest;
    }
}
