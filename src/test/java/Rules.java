import com.sun.source.tree.AssignmentTree;
import com.sun.source.tree.BinaryTree;
import com.sun.source.tree.BlockTree;
import com.sun.source.tree.ClassTree;
import com.sun.source.tree.CompilationUnitTree;
import com.sun.source.tree.DoWhileLoopTree;
import com.sun.source.tree.ExpressionTree;
import com.sun.source.tree.ForLoopTree;
import com.sun.source.tree.LiteralTree;
import com.sun.source.tree.MethodInvocationTree;
import com.sun.source.tree.MethodTree;
import com.sun.source.tree.NewArrayTree;
import com.sun.source.tree.PrimitiveTypeTree;
import com.sun.source.tree.Tree;
import com.sun.source.tree.Tree.Kind;
import com.sun.source.tree.TypeCastTree;
import com.sun.source.tree.VariableTree;
import com.sun.source.tree.WhileLoopTree;
import com.sun.source.util.JavacTask;
import com.sun.source.util.SourcePositions;
import com.sun.source.util.TreePath;
import com.sun.source.util.TreePathScanner;
import com.sun.source.util.Trees;
import java.io.IOException;
import java.net.URI;
import java.util.EnumMap;
import java.util.EnumSet;
import java.util.HashMap;
import java.util.HashSet;
import java.util.LinkedHashMap;
import java.util.LinkedHashSet;
import java.util.List;
import java.util.Map;
import java.util.Set;
import java.util.TreeMap;
import javax.lang.model.element.Element;
import javax.lang.model.element.ElementKind;
import javax.lang.model.element.ExecutableElement;
import javax.lang.model.element.Modifier;
import javax.lang.model.element.VariableElement;
import javax.lang.model.type.ArrayType;
import javax.lang.model.type.TypeKind;
import javax.lang.model.type.TypeMirror;
import javax.tools.Diagnostic;
import javax.tools.DiagnosticCollector;
import javax.tools.JavaFileObject;
import javax.tools.SimpleJavaFileObject;
import javax.tools.ToolProvider;

/**
 * Reads a source text against LANGUAGE.md and tells what breaks a rule. What the rules allow is let through; what
 * cannot be seen in the text is not looked for here: rule 7 has a test of its own, AnyCallTest, and so have the
 * names of the public face, FaceTest. "Some sixty" lines and "some forty" fields are read as 60 and 40, and a call
 * "six deep" has the method called from outside as its first.
 */
final class Rules extends TreePathScanner<Void, Void> {
    /** The number under which a text stands that is no Java at all. */
    static final int NO_JAVA = 0;

    private static final int MOST_PARAMETERS = 7;
    private static final int MOST_LINES = 60;
    private static final int MOST_DEPTH = 6;
    private static final int MOST_FIELDS = 40;
    private static final Set<TypeKind> NUMBERS = EnumSet.of(TypeKind.INT, TypeKind.LONG, TypeKind.SHORT,
            TypeKind.BYTE, TypeKind.CHAR, TypeKind.BOOLEAN);
    private static final Set<Kind> CONDITIONS = EnumSet.of(Kind.IF, Kind.CONDITIONAL_EXPRESSION, Kind.SWITCH,
            Kind.SWITCH_EXPRESSION, Kind.CONDITIONAL_AND, Kind.CONDITIONAL_OR);
    private static final Set<Kind> LOOPS = EnumSet.of(Kind.FOR_LOOP, Kind.WHILE_LOOP, Kind.DO_WHILE_LOOP,
            Kind.ENHANCED_FOR_LOOP);
    private static final Map<Kind, Integer> RULED_OUT = ruledOut();

    private final Map<Integer, Set<String>> breaches = new TreeMap<>();
    private final Map<Element, Set<Element>> calls = new LinkedHashMap<>();
    private final Map<Element, Integer> timesMade = new HashMap<>();
    private final Trees trees;
    private Element owner;
    /** Null outside of methods. */
    private ExecutableElement method;
    private boolean insideArguments;
    private boolean calledOnItself;

    private Rules(Trees trees) {
        this.trees = trees;
    }

    private static Map<Kind, Integer> ruledOut() {
        Map<Kind, Integer> kinds = new EnumMap<>(Kind.class);
        for (Kind kind : List.of(Kind.INTERFACE, Kind.ENUM, Kind.RECORD, Kind.ANNOTATION_TYPE)) {
            kinds.put(kind, 1);
        }
        for (Kind kind : List.of(Kind.STRING_LITERAL, Kind.FLOAT_LITERAL, Kind.DOUBLE_LITERAL)) {
            kinds.put(kind, 2);
        }
        for (Kind kind : List.of(Kind.ANNOTATION, Kind.TYPE_ANNOTATION, Kind.PARAMETERIZED_TYPE)) {
            kinds.put(kind, 3);
        }
        for (Kind kind : List.of(Kind.NEW_CLASS, Kind.NULL_LITERAL)) {
            kinds.put(kind, 4);
        }
        for (Kind kind : List.of(Kind.THROW, Kind.TRY, Kind.CATCH, Kind.SYNCHRONIZED, Kind.ASSERT,
                Kind.INSTANCE_OF, Kind.LAMBDA_EXPRESSION, Kind.MEMBER_REFERENCE)) {
            kinds.put(kind, 6);
        }
        return kinds;
    }

    /** What breaks a rule, under the rule's number. */
    static Map<Integer, Set<String>> breachesIn(String text) throws IOException {
        JavaFileObject source = new SimpleJavaFileObject(
                URI.create("string:///FrequentSets.java"), JavaFileObject.Kind.SOURCE) {
            @Override
            public CharSequence getCharContent(boolean ignoreErrors) {
                return text;
            }
        };
        DiagnosticCollector<JavaFileObject> told = new DiagnosticCollector<>();
        JavacTask task = (JavacTask) ToolProvider.getSystemJavaCompiler().getTask(
                null, null, told, List.of("--release", "17", "-proc:none"), null, List.of(source));
        Iterable<? extends CompilationUnitTree> units = task.parse();
        task.analyze();
        Rules rules = new Rules(Trees.instance(task));
        for (Diagnostic<?> one : told.getDiagnostics()) {
            if (one.getKind() == Diagnostic.Kind.ERROR) {
                rules.breach(NO_JAVA, one.getMessage(null));
            }
        }
        if (rules.breaches.isEmpty()) {
            rules.scan(units, null);
            rules.lookAtCalls();
        }
        return rules.breaches;
    }

    private void breach(int rule, String words) {
        String place = method == null ? "" : ", in " + method.getSimpleName();
        breaches.computeIfAbsent(rule, none -> new LinkedHashSet<>()).add(words + place);
    }

    private void rule(int number, String words, boolean kept) {
        if (!kept) {
            breach(number, words);
        }
    }

    @Override
    public Void scan(Tree tree, Void none) {
        if (tree != null && RULED_OUT.containsKey(tree.getKind())) {
            breach(RULED_OUT.get(tree.getKind()), tree.getKind() + " " + tree);
        }
        if (tree instanceof ExpressionTree) {
            lookAtType(tree);
        }
        return super.scan(tree, none);
    }

    private void lookAtType(Tree expression) {
        TypeMirror type = typeOf(expression);
        if (type != null) {
            rule(2, "no float or double: " + expression,
                    type.getKind() != TypeKind.FLOAT && type.getKind() != TypeKind.DOUBLE);
            rule(3, "no other class: " + expression, type.getKind() != TypeKind.DECLARED || isOwner(type));
        }
    }

    private TypeMirror typeOf(Tree tree) {
        return trees.getTypeMirror(new TreePath(getCurrentPath(), tree));
    }

    private boolean isOwner(TypeMirror type) {
        return owner != null && type.toString().equals(owner.toString());
    }

    private static boolean isArray(TypeMirror type) {
        return type != null && type.getKind() == TypeKind.ARRAY;
    }

    private static boolean isPlain(TypeMirror type) {
        return NUMBERS.contains(type.getKind())
                || type instanceof ArrayType array && NUMBERS.contains(array.getComponentType().getKind());
    }

    @Override
    public Void visitCompilationUnit(CompilationUnitTree unit, Void none) {
        rule(1, "no package line", unit.getPackage() == null);
        rule(1, "one class in the file", unit.getTypeDecls().size() == 1);
        rule(3, "nothing is imported", unit.getImports().isEmpty());
        return scan(unit.getTypeDecls(), none);
    }

    @Override
    public Void visitClass(ClassTree tree, Void none) {
        if (owner != null) {
            breach(1, "no nested class: " + tree.getSimpleName());
            return null;
        }
        owner = trees.getElement(getCurrentPath());
        rule(1, "the class of the document", tree.getSimpleName().contentEquals("FrequentSets"));
        rule(1, "public and final",
                tree.getModifiers().getFlags().equals(EnumSet.of(Modifier.PUBLIC, Modifier.FINAL)));
        rule(3, "no superclass, no interface and no parameter of the class", tree.getExtendsClause() == null
                && tree.getImplementsClause().isEmpty() && tree.getTypeParameters().isEmpty());
        lookAtMembers();
        return super.visitClass(tree, none);
    }

    private void lookAtMembers() {
        int fields = 0;
        Set<String> publicNames = new HashSet<>();
        Set<String> privateNames = new HashSet<>();
        for (Element member : owner.getEnclosedElements()) {
            Set<Modifier> flags = member.getModifiers();
            rule(1, member + " is public or private",
                    flags.contains(Modifier.PUBLIC) || flags.contains(Modifier.PRIVATE));
            if (member instanceof VariableElement field) {
                lookAtField(field);
                fields += flags.contains(Modifier.STATIC) ? 0 : 1;
            } else if (member.getKind() == ElementKind.METHOD) {
                Set<String> names = flags.contains(Modifier.PUBLIC) ? publicNames : privateNames;
                names.add(member.getSimpleName().toString());
            }
        }
        privateNames.retainAll(publicNames);
        rule(1, "private and public " + privateNames, privateNames.isEmpty());
        rule(10, "at most some forty fields", fields <= MOST_FIELDS);
    }

    private void lookAtField(VariableElement field) {
        if (field.getModifiers().contains(Modifier.STATIC)) {
            TypeKind kind = field.asType().getKind();
            rule(5, field + " is an int or a long", kind == TypeKind.INT || kind == TypeKind.LONG);
            rule(5, field + " is a compile-time constant", field.getConstantValue() != null);
        } else {
            rule(1, field + " is private", field.getModifiers().contains(Modifier.PRIVATE));
        }
    }

    @Override
    public Void visitBlock(BlockTree block, Void none) {
        rule(5, "no static initialiser", !block.isStatic());
        return super.visitBlock(block, none);
    }

    @Override
    public Void visitMethod(MethodTree tree, Void none) {
        method = (ExecutableElement) trees.getElement(getCurrentPath());
        calls.put(method, new LinkedHashSet<>());
        TypeMirror answer = method.getReturnType();
        rule(4, "an array is never answered", !isArray(answer));
        rule(2, "answers a plain type", answer.getKind() == TypeKind.VOID || isPlain(answer));
        rule(4, "a call makes no array for its arguments", !method.isVarArgs());
        rule(6, "not synchronized", !method.getModifiers().contains(Modifier.SYNCHRONIZED));
        rule(11, "not native", !method.getModifiers().contains(Modifier.NATIVE));
        rule(6, "nothing is thrown", tree.getThrows().isEmpty());
        rule(10, "at most seven parameters", tree.getParameters().size() <= MOST_PARAMETERS);
        rule(10, "some sixty lines at most", linesOf(tree) <= MOST_LINES);
        super.visitMethod(tree, none);
        method = null;
        return null;
    }

    private long linesOf(MethodTree tree) {
        CompilationUnitTree unit = getCurrentPath().getCompilationUnit();
        SourcePositions places = trees.getSourcePositions();
        return unit.getLineMap().getLineNumber(places.getEndPosition(unit, tree))
                - unit.getLineMap().getLineNumber(places.getStartPosition(unit, tree)) + 1;
    }

    @Override
    public Void visitVariable(VariableTree tree, Void none) {
        Element variable = trees.getElement(getCurrentPath());
        rule(2, variable + " has a plain type", isPlain(variable.asType()));
        if (tree.getInitializer() != null && isArray(variable.asType())) {
            timesMade.merge(variable, 1, Integer::sum);
        }
        return super.visitVariable(tree, none);
    }

    @Override
    public Void visitTypeCast(TypeCastTree cast, Void none) {
        rule(6, "casts between number types alone: " + cast, cast.getType() instanceof PrimitiveTypeTree);
        return super.visitTypeCast(cast, none);
    }

    @Override
    public Void visitNewArray(NewArrayTree made, Void none) {
        rule(4, made + " is made in a field or in the constructor", isMadeAtTheStart());
        rule(4, made + " is made in no loop and behind no condition", !isInside(LOOPS) && !isInside(CONDITIONS));
        rule(4, made + " is made before a method is called on the object", !calledOnItself);
        rule(4, made + " has one length", made.getDimensions().size() == 1 && made.getInitializers() == null);
        rule(2, made + " has one dimension", isPlain(trees.getTypeMirror(getCurrentPath())));
        for (ExpressionTree length : made.getDimensions()) {
            rule(4, "the length " + length + " is a literal or a constant, 1 or more", isLength(length));
        }
        return super.visitNewArray(made, none);
    }

    private boolean isMadeAtTheStart() {
        TreePath path = getCurrentPath();
        while (path.getParentPath().getLeaf().getKind() != Kind.CLASS) {
            path = path.getParentPath();
        }
        Element member = trees.getElement(path);
        return path.getLeaf() instanceof VariableTree
                || member != null && member.getKind() == ElementKind.CONSTRUCTOR;
    }

    private boolean isInside(Set<Kind> kinds) {
        for (Tree around : getCurrentPath()) {
            if (kinds.contains(around.getKind())) {
                return true;
            }
        }
        return false;
    }

    private boolean isLength(ExpressionTree length) {
        Object value = null;
        if (length instanceof LiteralTree literal) {
            value = literal.getValue();
        } else if (trees.getElement(new TreePath(getCurrentPath(), length)) instanceof VariableElement name) {
            value = name.getConstantValue();
        }
        return value instanceof Integer number && number >= 1;
    }

    @Override
    public Void visitAssignment(AssignmentTree tree, Void none) {
        Element target = trees.getElement(new TreePath(getCurrentPath(), tree.getVariable()));
        if (target instanceof VariableElement && isArray(target.asType())) {
            if (target.getKind() == ElementKind.FIELD) {
                rule(4, target + " is assigned by the constructor alone",
                        method != null && method.getKind() == ElementKind.CONSTRUCTOR);
                rule(4, target + " is made once", timesMade.merge(target, 1, Integer::sum) == 1);
            } else {
                rule(4, target + " names the same array all through a loop", !isInside(LOOPS));
            }
        }
        return super.visitAssignment(tree, none);
    }

    @Override
    public Void visitBinary(BinaryTree tree, Void none) {
        rule(4, "arrays are not compared: " + tree,
                !isArray(typeOf(tree.getLeftOperand())) && !isArray(typeOf(tree.getRightOperand())));
        return super.visitBinary(tree, none);
    }

    @Override
    public Void visitMethodInvocation(MethodInvocationTree call, Void none) {
        // The compiler itself writes this call into a constructor that has none.
        if (call.getMethodSelect().toString().equals("super")) {
            return null;
        }
        Element called = trees.getElement(new TreePath(getCurrentPath(), call.getMethodSelect()));
        rule(3, called + " is a method of the class", owner.equals(called.getEnclosingElement()));
        rule(10, called + " is not called inside arguments", !insideArguments);
        if (method != null) {
            calls.get(method).add(called);
        }
        boolean before = insideArguments;
        insideArguments = true;
        scan(call.getArguments(), none);
        insideArguments = before;
        if (atTheStart() && !called.getModifiers().contains(Modifier.STATIC)) {
            lookAtCallAtTheStart(call);
        }
        return scan(call.getMethodSelect(), none);
    }

    private boolean atTheStart() {
        return method == null || method.getKind() == ElementKind.CONSTRUCTOR;
    }

    private void lookAtCallAtTheStart(MethodInvocationTree call) {
        calledOnItself = true;
        for (ExpressionTree argument : call.getArguments()) {
            rule(4, "the constructor hands over no array: " + call, !isArray(typeOf(argument)));
        }
    }

    @Override
    public Void visitForLoop(ForLoopTree loop, Void none) {
        rule(8, "a counter against a bound: " + loop, new Loop(loop).ends());
        return super.visitForLoop(loop, none);
    }

    @Override
    public Void visitWhileLoop(WhileLoopTree loop, Void none) {
        rule(8, "a counter against a bound: " + loop, new Loop(loop).ends());
        return super.visitWhileLoop(loop, none);
    }

    @Override
    public Void visitDoWhileLoop(DoWhileLoopTree loop, Void none) {
        rule(8, "a counter against a bound: " + loop, new Loop(loop).ends());
        return super.visitDoWhileLoop(loop, none);
    }

    private void lookAtCalls() {
        for (Element start : calls.keySet()) {
            Set<Element> layer = Set.of(start);
            int depth = 0;
            // As many layers as methods are enough: a longer way passes a method twice, which is a recursion.
            while (!layer.isEmpty() && depth <= calls.size()) {
                layer = calledFrom(layer);
                depth++;
                rule(8, "no recursion through " + start, !layer.contains(start));
            }
            rule(10, "calls at most six deep from " + start, depth <= MOST_DEPTH);
        }
    }

    private Set<Element> calledFrom(Set<Element> layer) {
        Set<Element> next = new HashSet<>();
        for (Element caller : layer) {
            next.addAll(calls.getOrDefault(caller, Set.of()));
        }
        return next;
    }
}
