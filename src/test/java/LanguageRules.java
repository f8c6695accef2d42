import com.sun.source.tree.*;
import com.sun.source.util.JavacTask;
import com.sun.source.util.TreePath;
import com.sun.source.util.TreeScanner;
import com.sun.source.util.Trees;
import java.io.IOException;
import java.net.URI;
import java.util.ArrayList;
import java.util.HashMap;
import java.util.HashSet;
import java.util.LinkedHashMap;
import java.util.List;
import java.util.Map;
import java.util.Set;
import java.util.TreeSet;
import javax.lang.model.element.Element;
import javax.lang.model.element.ElementKind;
import javax.lang.model.element.ExecutableElement;
import javax.lang.model.element.Modifier;
import javax.lang.model.element.TypeElement;
import javax.lang.model.element.VariableElement;
import javax.lang.model.type.ArrayType;
import javax.lang.model.type.TypeKind;
import javax.lang.model.type.TypeMirror;
import javax.tools.JavaFileObject;
import javax.tools.SimpleJavaFileObject;
import javax.tools.ToolProvider;

/**
 * Finds where a source leaves the rules of LANGUAGE.md, as far as the compiler's tree of it tells. It asks
 * for no more than the rules: what can't be told from the tree is let through, and left to tests with calls.
 */
final class LanguageRules extends TreeScanner<Void, Void> {
    private static final Set<String> FACE = Set.of("public <init>()", "public int k(int)",
        "public int codeLen(int,int)", "public int update(int,int)", "public int cell(int)");
    private static final Set<TypeKind> NUMBERS =
        Set.of(TypeKind.INT, TypeKind.LONG, TypeKind.SHORT, TypeKind.BYTE, TypeKind.CHAR, TypeKind.BOOLEAN);
    private static final int MOST_PARAMETERS = 7;
    /** Six calls, one in the other, below the method that is called first. */
    private static final int MOST_DEPTH = 7;
    // Rule 10 says "some sixty lines" and "some forty fields": only what is plainly more is a breach.
    private static final int MOST_LINES = 70;
    private static final int MOST_FIELDS = 45;

    private final List<String> breaches = new ArrayList<>();
    private final Map<Element, Set<Element>> calls = new LinkedHashMap<>();
    private final Set<Element> made = new HashSet<>();
    private final Trees trees;
    private final CompilationUnitTree unit;
    private TypeElement theClass = null;
    private ExecutableElement method = null;
    private boolean inField = false;
    private boolean calledWhileMade = false;
    private int branches = 0;
    private int loops = 0;
    private int arguments = 0;

    private LanguageRules(Trees trees, CompilationUnitTree unit) {
        this.trees = trees;
        this.unit = unit;
    }

    /** Each breach as "rule N: what". */
    static List<String> breaches(String source) throws IOException {
        URI name = URI.create("string:///RiceAdapt.java");
        JavaFileObject file = new SimpleJavaFileObject(name, JavaFileObject.Kind.SOURCE) {
            @Override
            public CharSequence getCharContent(boolean ignoreEncodingErrors) {
                return source;
            }
        };
        // Whether the source compiles is for .ci/run to tell, so the compiler's own words are dropped here.
        JavacTask task = (JavacTask) ToolProvider.getSystemJavaCompiler().getTask(null, null, words -> { },
            List.of("--release", "17", "-proc:none"), null, List.of(file));
        CompilationUnitTree unit = task.parse().iterator().next();
        task.analyze();
        LanguageRules rules = new LanguageRules(Trees.instance(task), unit);
        rules.file();
        return rules.breaches;
    }

    private void breach(int rule, String what) {
        breaches.add("rule " + rule + ": " + what);
    }

    private void require(boolean holds, int rule, String otherwise) {
        if (!holds) {
            breach(rule, otherwise);
        }
    }

    private Element element(Tree tree) {
        TreePath path = trees.getPath(unit, tree);
        return path == null ? null : trees.getElement(path);
    }

    private TypeMirror type(Tree tree) {
        TreePath path = tree == null ? null : trees.getPath(unit, tree);
        return path == null ? null : trees.getTypeMirror(path);
    }

    private boolean isArray(Tree tree) {
        TypeMirror type = type(tree);
        return type != null && type.getKind() == TypeKind.ARRAY;
    }

    private void file() {
        require(unit.getPackage() == null, 1, "a package line");
        require(unit.getImports().isEmpty(), 3, "an import");
        int classes = 0;
        for (Tree tree : unit.getTypeDecls()) {
            if (tree instanceof ClassTree) {
                classes++;
                topClass((ClassTree) tree);
            }
        }
        require(classes == 1, 1, classes + " classes");
        recursion();
    }

    private void topClass(ClassTree tree) {
        theClass = (TypeElement) element(tree);
        boolean named = tree.getKind() == Tree.Kind.CLASS && tree.getSimpleName().contentEquals("RiceAdapt");
        require(named, 1, "another class than RiceAdapt");
        boolean open = theClass.getModifiers().containsAll(Set.of(Modifier.PUBLIC, Modifier.FINAL));
        require(open, 1, "the class is not public and final");
        members();
        super.visitClass(tree, null);
    }

    private void members() {
        Set<String> face = new TreeSet<>();
        Set<String> open = new HashSet<>();
        Set<String> hidden = new HashSet<>();
        int fields = 0;
        for (Element member : theClass.getEnclosedElements()) {
            boolean isPrivate = member.getModifiers().contains(Modifier.PRIVATE);
            if (!isPrivate) {
                face.add(described(member));
            }
            if (member.getKind() == ElementKind.METHOD) {
                (isPrivate ? hidden : open).add(member.getSimpleName().toString());
            }
            if (member.getKind() == ElementKind.FIELD && !member.getModifiers().contains(Modifier.STATIC)) {
                fields++;
            }
        }
        require(face.equals(FACE), 1, "what can be seen from outside is " + face);
        hidden.retainAll(open);
        require(hidden.isEmpty(), 1, "private methods with a public one's name: " + hidden);
        require(fields <= MOST_FIELDS, 10, fields + " fields");
    }

    private static String described(Element member) {
        StringBuilder text = new StringBuilder();
        for (Modifier flag : List.of(Modifier.PUBLIC, Modifier.PROTECTED, Modifier.STATIC)) {
            text.append(member.getModifiers().contains(flag) ? flag + " " : "");
        }
        if (member.getKind() == ElementKind.METHOD) {
            text.append(((ExecutableElement) member).getReturnType()).append(' ');
        }
        text.append(member.getSimpleName());
        if (member instanceof ExecutableElement) {
            List<String> types = new ArrayList<>();
            ((ExecutableElement) member).getParameters().forEach(one -> types.add(one.asType().toString()));
            text.append('(').append(String.join(",", types)).append(')');
        }
        return text.toString();
    }

    /** A call that leads back to its own method never gets a depth: what is left over is recursion. */
    private void recursion() {
        Map<Element, Integer> depths = new HashMap<>();
        boolean found = true;
        while (found) {
            found = false;
            for (Element name : calls.keySet()) {
                if (!depths.containsKey(name) && depths.keySet().containsAll(calls.get(name))) {
                    int deepest = calls.get(name).stream().mapToInt(depths::get).max().orElse(0);
                    depths.put(name, deepest + 1);
                    found = true;
                }
            }
        }
        require(depths.keySet().containsAll(calls.keySet()), 8, "recursion among " + calls);
        depths.forEach((name, depth) -> require(depth <= MOST_DEPTH, 10, name + " calls too deep"));
    }

    /** Every expression's type is looked at, since a breach of rule 2 needs no declaration. */
    @Override
    public Void scan(Tree tree, Void none) {
        if (tree instanceof ExpressionTree && !(tree instanceof AnnotationTree)) {
            TypeMirror type = type(tree);
            TypeKind kind = type == null ? TypeKind.NONE : type.getKind();
            boolean object = kind == TypeKind.DECLARED && !type.equals(theClass.asType());
            require(!object && kind != TypeKind.FLOAT && kind != TypeKind.DOUBLE, 2, tree + " is of the type " + type);
        }
        return super.scan(tree, none);
    }

    @Override
    public Void visitClass(ClassTree tree, Void none) {
        breach(1, "a nested class");
        return null;
    }

    @Override
    public Void visitBlock(BlockTree tree, Void none) {
        require(!tree.isStatic(), 5, "a static initialiser");
        return super.visitBlock(tree, none);
    }

    @Override
    public Void visitMethod(MethodTree tree, Void none) {
        method = (ExecutableElement) element(tree);
        String name = method.getSimpleName().toString();
        calls.computeIfAbsent(method, key -> new HashSet<>());
        TypeMirror answer = method.getReturnType();
        require(answer.getKind() != TypeKind.ARRAY, 4, name + " answers an array");
        if (answer.getKind() != TypeKind.VOID) {
            typed(answer, name);
        }
        require(!method.getModifiers().contains(Modifier.SYNCHRONIZED), 6, name + " is synchronized");
        require(!method.isVarArgs(), 4, "a call of " + name + " makes an array");
        require(tree.getParameters().size() <= MOST_PARAMETERS, 10, name + " has too many parameters");
        require(lines(tree) <= MOST_LINES, 10, name + " is too long");
        super.visitMethod(tree, none);
        method = null;
        return null;
    }

    private long lines(MethodTree tree) {
        long first = trees.getSourcePositions().getStartPosition(unit, tree);
        long last = trees.getSourcePositions().getEndPosition(unit, tree);
        // A constructor that the compiler added has no end.
        return last < first ? 0 : unit.getLineMap().getLineNumber(last) - unit.getLineMap().getLineNumber(first) + 1;
    }

    private void typed(TypeMirror type, String name) {
        TypeMirror plain = type.getKind() == TypeKind.ARRAY ? ((ArrayType) type).getComponentType() : type;
        require(NUMBERS.contains(plain.getKind()), 2, name + " is of the type " + type);
    }

    @Override
    public Void visitVariable(VariableTree tree, Void none) {
        VariableElement variable = (VariableElement) element(tree);
        String name = tree.getName().toString();
        typed(variable.asType(), name);
        if (variable.getKind() == ElementKind.FIELD && variable.getModifiers().contains(Modifier.STATIC)) {
            TypeKind kind = variable.asType().getKind();
            boolean constant = variable.getConstantValue() != null && (kind == TypeKind.INT || kind == TypeKind.LONG);
            require(constant, 5, "the static field " + name + " is not a constant of int or long");
        }
        makes(variable, tree.getInitializer());
        inField = variable.getKind() == ElementKind.FIELD;
        super.visitVariable(tree, none);
        inField = false;
        return null;
    }

    private void makes(Element variable, ExpressionTree value) {
        if (value instanceof NewArrayTree) {
            require(made.add(variable), 4, "the array " + variable + " is made twice");
        }
    }

    @Override
    public Void visitIdentifier(IdentifierTree tree, Void none) {
        names(tree);
        return super.visitIdentifier(tree, none);
    }

    @Override
    public Void visitMemberSelect(MemberSelectTree tree, Void none) {
        names(tree);
        return super.visitMemberSelect(tree, none);
    }

    /** A name of the class itself, of a member or a variable of it, or of an array's length is no library name. */
    private void names(ExpressionTree tree) {
        Element named = element(tree);
        if (named == null || named.equals(theClass)) {
            return;
        }
        boolean foreign = named instanceof TypeElement || named.getKind() == ElementKind.PACKAGE;
        boolean member = named.getKind() == ElementKind.FIELD || named.getKind() == ElementKind.METHOD;
        boolean length = tree instanceof MemberSelectTree && isArray(((MemberSelectTree) tree).getExpression())
            && named.getKind() == ElementKind.FIELD;
        boolean self = tree.toString().equals("this") || tree.toString().equals("super");
        boolean own = theClass.equals(named.getEnclosingElement());
        require(!foreign && (!member || own || length || self), 3, "the name " + tree);
    }

    @Override
    public Void visitMethodInvocation(MethodInvocationTree tree, Void none) {
        Element called = element(tree);
        require(arguments == 0, 10, "a call inside the arguments of a call: " + tree);
        if (called != null && theClass.equals(called.getEnclosingElement())) {
            if (method != null) {
                calls.get(method).add(called);
            }
            if (isMaking()) {
                calledWhileMade(called, tree.getArguments());
            }
        }
        scan(tree.getMethodSelect(), none);
        arguments++;
        scan(tree.getArguments(), none);
        arguments--;
        return null;
    }

    private boolean isMaking() {
        return method == null || method.getKind() == ElementKind.CONSTRUCTOR;
    }

    private void calledWhileMade(Element called, List<? extends ExpressionTree> handed) {
        Set<Modifier> flags = called.getModifiers();
        if (!flags.contains(Modifier.PRIVATE) || flags.contains(Modifier.STATIC)) {
            return;
        }
        calledWhileMade = true;
        for (ExpressionTree one : handed) {
            require(!isArray(one), 4, "the constructor hands an array to " + called);
        }
    }

    @Override
    public Void visitNewClass(NewClassTree tree, Void none) {
        breach(4, "an object is made: " + tree);
        return super.visitNewClass(tree, none);
    }

    @Override
    public Void visitNewArray(NewArrayTree tree, Void none) {
        boolean early = inField || method != null && method.getKind() == ElementKind.CONSTRUCTOR;
        require(early, 4, "an array is made outside of a field's initialiser and the constructor: " + tree);
        require(loops == 0 && branches == 0, 4, "an array is made in a loop or behind a condition: " + tree);
        require(!calledWhileMade, 4, "an array is made after the call of a private method: " + tree);
        boolean length = tree.getDimensions().size() == 1 && isLength(tree.getDimensions().get(0));
        require(length, 4, "an array's length is not a constant of 1 or more: " + tree);
        return super.visitNewArray(tree, none);
    }

    private boolean isLength(ExpressionTree tree) {
        Object value = tree instanceof LiteralTree ? ((LiteralTree) tree).getValue() : constant(tree);
        return value instanceof Number ? ((Number) value).longValue() >= 1 : isConstant(tree);
    }

    private Object constant(ExpressionTree tree) {
        Element named = element(tree);
        return named instanceof VariableElement ? ((VariableElement) named).getConstantValue() : null;
    }

    private boolean isConstant(ExpressionTree tree) {
        if (tree instanceof ParenthesizedTree) {
            return isConstant(((ParenthesizedTree) tree).getExpression());
        }
        if (tree instanceof TypeCastTree) {
            return isConstant(((TypeCastTree) tree).getExpression());
        }
        if (tree instanceof UnaryTree) {
            return isConstant(((UnaryTree) tree).getExpression());
        }
        if (tree instanceof BinaryTree) {
            BinaryTree both = (BinaryTree) tree;
            return isConstant(both.getLeftOperand()) && isConstant(both.getRightOperand());
        }
        return tree instanceof LiteralTree || constant(tree) != null;
    }

    @Override
    public Void visitAssignment(AssignmentTree tree, Void none) {
        if (isArray(tree.getVariable())) {
            Element named = element(tree.getVariable());
            boolean field = named != null && named.getKind() == ElementKind.FIELD;
            require(!field || isMaking(), 4, "a method assigns to the array field " + named);
            require(field || loops == 0, 4, named + " changes to another array inside a loop");
            makes(named, tree.getExpression());
        }
        return super.visitAssignment(tree, none);
    }

    @Override
    public Void visitBinary(BinaryTree tree, Void none) {
        boolean array = isArray(tree.getLeftOperand()) || isArray(tree.getRightOperand());
        require(!array, 4, "an array is compared: " + tree);
        return super.visitBinary(tree, none);
    }

    @Override
    public Void visitLiteral(LiteralTree tree, Void none) {
        require(tree.getKind() != Tree.Kind.NULL_LITERAL, 4, "null");
        return null;
    }

    @Override
    public Void visitTypeCast(TypeCastTree tree, Void none) {
        require(tree.getType() instanceof PrimitiveTypeTree, 6, "a cast of a reference: " + tree);
        return super.visitTypeCast(tree, none);
    }

    @Override
    public Void visitThrow(ThrowTree tree, Void none) {
        breach(6, "throw");
        return super.visitThrow(tree, none);
    }

    @Override
    public Void visitTry(TryTree tree, Void none) {
        breach(6, "try");
        return super.visitTry(tree, none);
    }

    @Override
    public Void visitSynchronized(SynchronizedTree tree, Void none) {
        breach(6, "synchronized");
        return super.visitSynchronized(tree, none);
    }

    @Override
    public Void visitAssert(AssertTree tree, Void none) {
        breach(6, "assert");
        return super.visitAssert(tree, none);
    }

    @Override
    public Void visitInstanceOf(InstanceOfTree tree, Void none) {
        breach(6, "instanceof");
        return super.visitInstanceOf(tree, none);
    }

    @Override
    public Void visitLambdaExpression(LambdaExpressionTree tree, Void none) {
        breach(6, "a lambda");
        return super.visitLambdaExpression(tree, none);
    }

    @Override
    public Void visitMemberReference(MemberReferenceTree tree, Void none) {
        breach(6, "a method reference");
        return super.visitMemberReference(tree, none);
    }

    @Override
    public Void visitIf(IfTree tree, Void none) {
        branches++;
        super.visitIf(tree, none);
        branches--;
        return null;
    }

    @Override
    public Void visitConditionalExpression(ConditionalExpressionTree tree, Void none) {
        branches++;
        super.visitConditionalExpression(tree, none);
        branches--;
        return null;
    }

    @Override
    public Void visitSwitch(SwitchTree tree, Void none) {
        branches++;
        super.visitSwitch(tree, none);
        branches--;
        return null;
    }

    @Override
    public Void visitSwitchExpression(SwitchExpressionTree tree, Void none) {
        branches++;
        super.visitSwitchExpression(tree, none);
        branches--;
        return null;
    }

    @Override
    public Void visitWhileLoop(WhileLoopTree tree, Void none) {
        boolean ends = LoopEnd.canBeSeen(tree.getCondition(), List.of(tree.getStatement()));
        require(ends, 8, "a loop without a counter: " + tree);
        loops++;
        super.visitWhileLoop(tree, none);
        loops--;
        return null;
    }

    @Override
    public Void visitDoWhileLoop(DoWhileLoopTree tree, Void none) {
        boolean ends = LoopEnd.canBeSeen(tree.getCondition(), List.of(tree.getStatement()));
        require(ends, 8, "a loop without a counter: " + tree);
        loops++;
        super.visitDoWhileLoop(tree, none);
        loops--;
        return null;
    }

    @Override
    public Void visitForLoop(ForLoopTree tree, Void none) {
        List<Tree> inside = new ArrayList<>(tree.getUpdate());
        inside.add(tree.getStatement());
        require(LoopEnd.canBeSeen(tree.getCondition(), inside), 8, "a loop without a counter: " + tree);
        loops++;
        super.visitForLoop(tree, none);
        loops--;
        return null;
    }

    @Override
    public Void visitEnhancedForLoop(EnhancedForLoopTree tree, Void none) {
        loops++;
        super.visitEnhancedForLoop(tree, none);
        loops--;
        return null;
    }
}
