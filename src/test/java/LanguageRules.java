import com.sun.source.tree.*;
import com.sun.source.util.JavacTask;
import com.sun.source.util.TreeScanner;
import java.io.IOException;
import java.net.URI;
import java.util.ArrayList;
import java.util.HashMap;
import java.util.HashSet;
import java.util.List;
import java.util.Map;
import java.util.Set;
import java.util.TreeMap;
import java.util.TreeSet;
import javax.lang.model.element.Modifier;
import javax.lang.model.type.TypeKind;
import javax.tools.JavaCompiler;
import javax.tools.JavaFileObject;
import javax.tools.SimpleJavaFileObject;
import javax.tools.ToolProvider;

/**
 * Finds where a source leaves the rules of LANGUAGE.md, as far as its tree tells. Where a rule can't be
 * told from the tree alone this is stricter than the rule. Rules 7 and 11 also have tests that make calls.
 */
final class LanguageRules extends TreeScanner<Void, Void> {
    private static final Set<String> FACE =
        Set.of("<init>()", "k(int)", "codeLen(int,int)", "update(int,int)", "cell(int)");
    private static final Set<TypeKind> NUMBERS =
        Set.of(TypeKind.INT, TypeKind.LONG, TypeKind.SHORT, TypeKind.BYTE, TypeKind.CHAR, TypeKind.BOOLEAN);
    private static final int MOST_PARAMETERS = 7;
    private static final int MOST_LINES = 60;
    private static final int MOST_DEPTH = 6;
    private static final int MOST_FIELDS = 40;

    private final List<String> breaches = new ArrayList<>();
    private final Set<String> constants = new HashSet<>();
    private final Set<String> arrayFields = new HashSet<>();
    private final Set<String> arrays = new HashSet<>();
    private final Set<String> methods = new HashSet<>();
    private final Set<String> staticMethods = new HashSet<>();
    private final Map<String, Set<String>> calls = new TreeMap<>();
    private final Map<String, Integer> depths = new HashMap<>();
    private boolean arraysInConstructor = false;
    private MethodTree method = null;
    private int branches = 0;
    private int loops = 0;
    private int arguments = 0;

    private LanguageRules() {
    }

    /** Each breach as "rule N: what". */
    static List<String> breaches(String source) throws IOException {
        LanguageRules rules = new LanguageRules();
        rules.unit(parse(source));
        return rules.breaches;
    }

    private static CompilationUnitTree parse(String source) throws IOException {
        URI name = URI.create("string:///RiceAdapt.java");
        JavaFileObject file = new SimpleJavaFileObject(name, JavaFileObject.Kind.SOURCE) {
            @Override
            public CharSequence getCharContent(boolean ignoreEncodingErrors) {
                return source;
            }
        };
        JavaCompiler compiler = ToolProvider.getSystemJavaCompiler();
        List<String> options = List.of("--release", "17");
        JavacTask task = (JavacTask) compiler.getTask(null, null, null, options, null, List.of(file));
        return task.parse().iterator().next();
    }

    private void breach(int rule, String what) {
        breaches.add("rule " + rule + ": " + what);
    }

    private void require(boolean holds, int rule, String otherwise) {
        if (!holds) {
            breach(rule, otherwise);
        }
    }

    private void unit(CompilationUnitTree unit) {
        require(unit.getPackage() == null, 1, "a package line");
        require(unit.getImports().isEmpty(), 3, "an import");
        require(unit.getTypeDecls().size() == 1, 1, "more or less than one class");
        for (Tree type : unit.getTypeDecls()) {
            if (type instanceof ClassTree) {
                theClass((ClassTree) type);
            }
        }
        recursion();
    }

    private void theClass(ClassTree tree) {
        boolean named = tree.getKind() == Tree.Kind.CLASS && tree.getSimpleName().contentEquals("RiceAdapt");
        require(named, 1, "another class than RiceAdapt");
        boolean visible = tree.getModifiers().getFlags().equals(Set.of(Modifier.PUBLIC, Modifier.FINAL));
        require(visible, 1, "the class is not public and final");
        require(tree.getExtendsClause() == null && tree.getImplementsClause().isEmpty(), 1, "a supertype");
        require(tree.getTypeParameters().isEmpty(), 2, "a type parameter");
        int fields = 0;
        Set<String> face = new TreeSet<>();
        for (Tree member : tree.getMembers()) {
            if (member instanceof VariableTree) {
                fields += field((VariableTree) member);
            } else if (member instanceof MethodTree) {
                signature((MethodTree) member, face);
            } else if (member instanceof BlockTree) {
                require(!((BlockTree) member).isStatic(), 5, "a static initialiser");
                breach(4, "an initialiser block");
            }
        }
        require(fields <= MOST_FIELDS, 10, fields + " fields");
        require(face.equals(FACE), 1, "the public face is " + face);
        for (String name : List.of("k", "codeLen", "update", "cell")) {
            require(!methods.contains(name + " private"), 1, "a private method named " + name);
        }
        scan(tree.getModifiers(), null);
        scan(tree.getMembers(), null);
    }

    /** Counts 1 for a field, 0 for a constant. */
    private int field(VariableTree tree) {
        Set<Modifier> flags = tree.getModifiers().getFlags();
        String name = tree.getName().toString();
        require(flags.contains(Modifier.PRIVATE), 1, "the field " + name + " is not private");
        require(!flags.contains(Modifier.VOLATILE), 11, "the volatile field " + name);
        if (tree.getType() instanceof ArrayTypeTree) {
            arrayFields.add(name);
            arrays.add(name);
        }
        if (!flags.contains(Modifier.STATIC)) {
            return 1;
        }
        boolean number = isPrimitive(tree.getType(), TypeKind.INT) || isPrimitive(tree.getType(), TypeKind.LONG);
        boolean constant = number && flags.contains(Modifier.FINAL) && isConstant(tree.getInitializer());
        require(constant, 5, "the static field " + name + " is not a constant of int or long");
        constants.add(name);
        return 0;
    }

    private static boolean isPrimitive(Tree type, TypeKind kind) {
        return type instanceof PrimitiveTypeTree && ((PrimitiveTypeTree) type).getPrimitiveTypeKind() == kind;
    }

    private boolean isConstant(ExpressionTree tree) {
        if (tree instanceof LiteralTree) {
            return true;
        }
        if (tree instanceof IdentifierTree) {
            return constants.contains(tree.toString());
        }
        if (tree instanceof ParenthesizedTree) {
            return isConstant(((ParenthesizedTree) tree).getExpression());
        }
        if (tree instanceof UnaryTree) {
            return isConstant(((UnaryTree) tree).getExpression());
        }
        if (tree instanceof BinaryTree) {
            BinaryTree both = (BinaryTree) tree;
            return isConstant(both.getLeftOperand()) && isConstant(both.getRightOperand());
        }
        return false;
    }

    private void signature(MethodTree tree, Set<String> face) {
        Set<Modifier> flags = tree.getModifiers().getFlags();
        List<String> types = new ArrayList<>();
        for (VariableTree parameter : tree.getParameters()) {
            types.add(String.valueOf(parameter.getType()));
        }
        String name = tree.getName().toString();
        methods.add(name);
        if (flags.contains(Modifier.STATIC)) {
            staticMethods.add(name);
        }
        if (flags.contains(Modifier.PRIVATE)) {
            methods.add(name + " private");
        } else {
            face.add(name + "(" + String.join(",", types) + ")");
            require(flags.contains(Modifier.PUBLIC), 1, name + " is neither public nor private");
        }
        require(!flags.contains(Modifier.SYNCHRONIZED), 6, name + " is synchronized");
        require(!flags.contains(Modifier.NATIVE), 3, name + " is native");
        require(tree.getThrows().isEmpty(), 6, name + " has a throws clause");
        require(tree.getParameters().size() <= MOST_PARAMETERS, 10, name + " has too many parameters");
        require(!(tree.getReturnType() instanceof ArrayTypeTree), 4, name + " answers an array");
        require(String.valueOf(tree).lines().count() <= MOST_LINES, 10, name + " is too long");
        arraysInConstructor |= name.equals("<init>") && String.valueOf(tree).contains("new ");
    }

    /** A call that leads back to its own method never gets a depth: what is left over is recursion. */
    private void recursion() {
        boolean found = true;
        while (found) {
            found = false;
            for (String name : calls.keySet()) {
                if (!depths.containsKey(name) && depths.keySet().containsAll(calls.get(name))) {
                    int deepest = calls.get(name).stream().mapToInt(depths::get).max().orElse(0);
                    depths.put(name, deepest + 1);
                    found = true;
                }
            }
        }
        require(depths.keySet().containsAll(calls.keySet()), 8, "recursion among " + calls);
        depths.forEach((name, depth) -> require(depth <= MOST_DEPTH, 10, name + " calls too deep"));
    }

    @Override
    public Void visitMethod(MethodTree tree, Void none) {
        method = tree;
        calls.computeIfAbsent(tree.getName().toString(), name -> new TreeSet<>());
        if (tree.getReturnType() != null && !isPrimitive(tree.getReturnType(), TypeKind.VOID)) {
            typed(tree.getReturnType(), tree.getName().toString());
        }
        arrays.clear();
        arrays.addAll(arrayFields);
        super.visitMethod(tree, none);
        method = null;
        return null;
    }

    @Override
    public Void visitVariable(VariableTree tree, Void none) {
        typed(tree.getType(), tree.getName().toString());
        if (tree.getType() instanceof ArrayTypeTree) {
            arrays.add(tree.getName().toString());
        }
        return super.visitVariable(tree, none);
    }

    private void typed(Tree type, String name) {
        Tree plain = type instanceof ArrayTypeTree ? ((ArrayTypeTree) type).getType() : type;
        boolean number = plain instanceof PrimitiveTypeTree
            && NUMBERS.contains(((PrimitiveTypeTree) plain).getPrimitiveTypeKind());
        require(number, 2, name + " is of the type " + type);
    }

    @Override
    public Void visitClass(ClassTree tree, Void none) {
        breach(1, "a nested class");
        return null;
    }

    @Override
    public Void visitPrimitiveType(PrimitiveTypeTree tree, Void none) {
        TypeKind kind = tree.getPrimitiveTypeKind();
        require(kind == TypeKind.VOID || NUMBERS.contains(kind), 2, "the type " + kind);
        return null;
    }

    @Override
    public Void visitLiteral(LiteralTree tree, Void none) {
        require(tree.getKind() != Tree.Kind.NULL_LITERAL, 4, "null");
        Set<Tree.Kind> wrong = Set.of(Tree.Kind.STRING_LITERAL, Tree.Kind.FLOAT_LITERAL, Tree.Kind.DOUBLE_LITERAL);
        require(!wrong.contains(tree.getKind()), 2, "the literal " + tree);
        return null;
    }

    @Override
    public Void visitAnnotation(AnnotationTree tree, Void none) {
        breach(3, "the annotation " + tree);
        return null;
    }

    @Override
    public Void visitMemberSelect(MemberSelectTree tree, Void none) {
        String of = tree.getExpression().toString();
        boolean length = tree.getIdentifier().contentEquals("length") && arrays.contains(of);
        require(length || of.equals("this"), 3, "the name " + tree);
        return super.visitMemberSelect(tree, none);
    }

    @Override
    public Void visitMethodInvocation(MethodInvocationTree tree, Void none) {
        String name = tree.getMethodSelect().toString().replaceFirst("^this\\.", "");
        boolean own = methods.contains(name);
        require(own || name.equals("super"), 3, "the call of " + name);
        require(arguments == 0, 10, "the call of " + name + " inside the arguments of a call");
        if (own && method != null) {
            calls.get(method.getName().toString()).add(name);
        }
        if (method == null || method.getName().contentEquals("<init>")) {
            callWhileMade(tree, name);
        }
        scan(tree.getMethodSelect(), none);
        arguments++;
        scan(tree.getArguments(), none);
        arguments--;
        return null;
    }

    private void callWhileMade(MethodInvocationTree tree, String name) {
        boolean free = name.equals("super") || staticMethods.contains(name) || !arraysInConstructor && method != null;
        require(free, 4, "the constructor calls " + name + ", perhaps before all arrays are made");
        for (ExpressionTree argument : tree.getArguments()) {
            require(!arrays.contains(argument.toString()), 4, "the constructor hands an array to " + name);
        }
    }

    @Override
    public Void visitNewClass(NewClassTree tree, Void none) {
        breach(4, "an object is made: " + tree);
        return null;
    }

    @Override
    public Void visitNewArray(NewArrayTree tree, Void none) {
        boolean early = method == null || method.getName().contentEquals("<init>");
        require(early, 4, "a method makes an array: " + tree);
        require(loops == 0 && branches == 0, 4, "an array made in a loop or behind a condition: " + tree);
        boolean length = tree.getInitializers() == null && tree.getDimensions().size() == 1
            && isConstant(tree.getDimensions().get(0)) && !tree.getDimensions().get(0).toString().equals("0");
        require(length, 4, "an array's length is not a constant: " + tree);
        return super.visitNewArray(tree, none);
    }

    @Override
    public Void visitAssignment(AssignmentTree tree, Void none) {
        String name = tree.getVariable().toString().replaceFirst("^this\\.", "");
        boolean inMethod = method != null && !method.getName().contentEquals("<init>");
        require(!arrayFields.contains(name) || !inMethod, 4, "a method assigns to the array field " + name);
        require(!arrays.contains(name) || loops == 0, 4, name + " names another array inside a loop");
        return super.visitAssignment(tree, none);
    }

    @Override
    public Void visitReturn(ReturnTree tree, Void none) {
        require(!arrays.contains(String.valueOf(tree.getExpression())), 4, "an array is answered");
        return super.visitReturn(tree, none);
    }

    @Override
    public Void visitBinary(BinaryTree tree, Void none) {
        boolean left = arrays.contains(tree.getLeftOperand().toString());
        boolean right = arrays.contains(tree.getRightOperand().toString());
        require(!left && !right, 4, "an array is compared: " + tree);
        return super.visitBinary(tree, none);
    }

    @Override
    public Void visitTypeCast(TypeCastTree tree, Void none) {
        require(tree.getType() instanceof PrimitiveTypeTree, 6, "a cast of a reference: " + tree);
        return super.visitTypeCast(tree, none);
    }

    @Override
    public Void visitThrow(ThrowTree tree, Void none) {
        breach(6, "throw");
        return super.visitThrow(tree, none);
    }

    @Override
    public Void visitTry(TryTree tree, Void none) {
        breach(6, "try");
        return super.visitTry(tree, none);
    }

    @Override
    public Void visitSynchronized(SynchronizedTree tree, Void none) {
        breach(6, "synchronized");
        return super.visitSynchronized(tree, none);
    }

    @Override
    public Void visitAssert(AssertTree tree, Void none) {
        breach(6, "assert");
        return super.visitAssert(tree, none);
    }

    @Override
    public Void visitInstanceOf(InstanceOfTree tree, Void none) {
        breach(6, "instanceof");
        return super.visitInstanceOf(tree, none);
    }

    @Override
    public Void visitLambdaExpression(LambdaExpressionTree tree, Void none) {
        breach(6, "a lambda");
        return super.visitLambdaExpression(tree, none);
    }

    @Override
    public Void visitMemberReference(MemberReferenceTree tree, Void none) {
        breach(6, "a method reference");
        return super.visitMemberReference(tree, none);
    }

    @Override
    public Void visitIf(IfTree tree, Void none) {
        branches++;
        super.visitIf(tree, none);
        branches--;
        return null;
    }

    @Override
    public Void visitConditionalExpression(ConditionalExpressionTree tree, Void none) {
        branches++;
        super.visitConditionalExpression(tree, none);
        branches--;
        return null;
    }

    @Override
    public Void visitSwitch(SwitchTree tree, Void none) {
        branches++;
        super.visitSwitch(tree, none);
        branches--;
        return null;
    }

    @Override
    public Void visitWhileLoop(WhileLoopTree tree, Void none) {
        breach(8, "a while loop, whose end this check can't see: use for");
        loops++;
        super.visitWhileLoop(tree, none);
        loops--;
        return null;
    }

    @Override
    public Void visitDoWhileLoop(DoWhileLoopTree tree, Void none) {
        breach(8, "a do loop, whose end this check can't see: use for");
        loops++;
        super.visitDoWhileLoop(tree, none);
        loops--;
        return null;
    }

    @Override
    public Void visitEnhancedForLoop(EnhancedForLoopTree tree, Void none) {
        loops++;
        super.visitEnhancedForLoop(tree, none);
        loops--;
        return null;
    }

    @Override
    public Void visitForLoop(ForLoopTree tree, Void none) {
        require(counts(tree), 8, "a loop that does not plainly count up to a bound: " + tree.getCondition());
        loops++;
        super.visitForLoop(tree, none);
        loops--;
        return null;
    }

    /** for (int i = ...; i < constant; i++), with a body that leaves i alone. */
    private boolean counts(ForLoopTree tree) {
        if (!(tree.getCondition() instanceof BinaryTree) || tree.getUpdate().size() != 1) {
            return false;
        }
        BinaryTree condition = (BinaryTree) tree.getCondition();
        String counter = condition.getLeftOperand().toString();
        String step = tree.getUpdate().get(0).toString().replace(";", "");
        boolean bound = condition.getKind() == Tree.Kind.LESS_THAN && isConstant(condition.getRightOperand());
        boolean up = step.equals(counter + "++") || step.equals("++" + counter);
        return bound && up && !changes(tree.getStatement(), counter);
    }

    private static boolean changes(Tree body, String counter) {
        boolean[] found = {false};
        new TreeScanner<Void, Void>() {
            @Override
            public Void visitAssignment(AssignmentTree tree, Void none) {
                found[0] |= tree.getVariable().toString().equals(counter);
                return super.visitAssignment(tree, none);
            }

            @Override
            public Void visitCompoundAssignment(CompoundAssignmentTree tree, Void none) {
                found[0] |= tree.getVariable().toString().equals(counter);
                return super.visitCompoundAssignment(tree, none);
            }

            @Override
            public Void visitUnary(UnaryTree tree, Void none) {
                boolean steps = tree.getKind().name().endsWith("CREMENT");
                found[0] |= steps && tree.getExpression().toString().equals(counter);
                return super.visitUnary(tree, none);
            }
        }.scan(body, null);
        return found[0];
    }
}
