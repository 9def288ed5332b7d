import com.sun.source.tree.AnnotationTree;
import com.sun.source.tree.ArrayAccessTree;
import com.sun.source.tree.ArrayTypeTree;
import com.sun.source.tree.AssertTree;
import com.sun.source.tree.AssignmentTree;
import com.sun.source.tree.BinaryTree;
import com.sun.source.tree.BlockTree;
import com.sun.source.tree.ClassTree;
import com.sun.source.tree.CompilationUnitTree;
import com.sun.source.tree.CompoundAssignmentTree;
import com.sun.source.tree.DoWhileLoopTree;
import com.sun.source.tree.EnhancedForLoopTree;
import com.sun.source.tree.ExpressionTree;
import com.sun.source.tree.ForLoopTree;
import com.sun.source.tree.IdentifierTree;
import com.sun.source.tree.ImportTree;
import com.sun.source.tree.InstanceOfTree;
import com.sun.source.tree.LambdaExpressionTree;
import com.sun.source.tree.LiteralTree;
import com.sun.source.tree.MemberReferenceTree;
import com.sun.source.tree.MemberSelectTree;
import com.sun.source.tree.MethodInvocationTree;
import com.sun.source.tree.MethodTree;
import com.sun.source.tree.NewArrayTree;
import com.sun.source.tree.NewClassTree;
import com.sun.source.tree.ParenthesizedTree;
import com.sun.source.tree.PrimitiveTypeTree;
import com.sun.source.tree.SwitchExpressionTree;
import com.sun.source.tree.SynchronizedTree;
import com.sun.source.tree.ThrowTree;
import com.sun.source.tree.Tree;
import com.sun.source.tree.TryTree;
import com.sun.source.tree.TypeCastTree;
import com.sun.source.tree.UnaryTree;
import com.sun.source.tree.VariableTree;
import com.sun.source.tree.WhileLoopTree;
import com.sun.source.util.JavacTask;
import com.sun.source.util.TreeScanner;
import java.io.IOException;
import java.io.UncheckedIOException;
import java.net.URI;
import java.util.ArrayList;
import java.util.HashMap;
import java.util.HashSet;
import java.util.LinkedHashMap;
import java.util.List;
import java.util.Map;
import java.util.Set;
import java.util.TreeSet;
import javax.lang.model.element.Modifier;
import javax.tools.JavaFileObject;
import javax.tools.SimpleJavaFileObject;
import javax.tools.ToolProvider;

/**
 * Finds what in a program breaks a rule of ../shared/LANGUAGE.md. It is stricter than the rules where
 * the program needs less than they leave: no texts, lists, doubles, switch expressions or recursion,
 * and nothing made but in fields and constructors.
 */
final class LanguageRules extends TreeScanner<Void, Void> {
    private static final Set<String> LIBRARY = Set.of("Math.abs", "Math.max", "Math.min",
            "Math.floorDiv", "Integer.bitCount", "Long.MIN_VALUE");
    private static final Set<String> LIBRARY_CLASSES = Set.of("Math", "Integer", "Long", "System",
            "Arrays", "Character", "String", "Thread", "Objects");
    private static final Set<String> OF_OBJECTS = Set.of("equals", "hashCode", "toString",
            "getClass", "wait", "notify", "clone", "finalize");
    private static final Set<String> NUMBERS = Set.of("int", "long", "char", "boolean", "void");
    /** Methods that look at an index for the one that uses it. */
    private static final Set<String> GUARDS = Set.of("isNode", "areTwoNodes", "isCorrect");
    private static final Set<Tree.Kind> COMPARISONS = Set.of(Tree.Kind.LESS_THAN,
            Tree.Kind.LESS_THAN_EQUAL, Tree.Kind.GREATER_THAN, Tree.Kind.GREATER_THAN_EQUAL,
            Tree.Kind.EQUAL_TO, Tree.Kind.NOT_EQUAL_TO);
    private static final int MOST_LINES = 60;
    private static final int MOST_PARAMETERS = 7;
    private static final int MOST_DEPTH = 8;
    private static final int MOST_CLASSES = 12;
    private static final int MOST_FIELDS = 20;

    private final Set<String> broken = new TreeSet<>();
    private final Set<String> classNames = new HashSet<>();
    private final Map<String, Set<String>> calls = new LinkedHashMap<>();
    /** What the present method looks at, by comparing it or by handing it to a guard. */
    private final Set<String> lookedAt = new HashSet<>();
    private String method = "";
    private boolean inConstructor;
    private int classDepth;
    private int loopDepth;

    private LanguageRules() {
    }

    /** Each entry begins with the number of the rule. */
    static List<String> brokenIn(String source) {
        LanguageRules rules = new LanguageRules();
        CompilationUnitTree unit = parsed(source);
        rules.declaredIn(unit);
        rules.scan(unit, null);
        rules.callDepths();
        return new ArrayList<>(rules.broken);
    }

    private static CompilationUnitTree parsed(String source) {
        JavaFileObject file = new SimpleJavaFileObject(URI.create("string:///P.java"),
                JavaFileObject.Kind.SOURCE) {
            @Override
            public CharSequence getCharContent(boolean ignoreEncodingErrors) {
                return source;
            }
        };
        try {
            JavacTask task = (JavacTask) ToolProvider.getSystemJavaCompiler().getTask(null, null,
                    null, List.of("-proc:none"), null, List.of(file));
            return task.parse().iterator().next();
        } catch (IOException e) {
            throw new UncheckedIOException(e);
        }
    }

    private void declaredIn(CompilationUnitTree unit) {
        new TreeScanner<Void, Void>() {
            @Override
            public Void visitClass(ClassTree tree, Void none) {
                classNames.add(tree.getSimpleName().toString());
                return super.visitClass(tree, none);
            }

            @Override
            public Void visitMethod(MethodTree tree, Void none) {
                calls.computeIfAbsent(tree.getName().toString(), key -> new HashSet<>());
                return super.visitMethod(tree, none);
            }
        }.scan(unit, null);
        breaksIf(classNames.size() > MOST_CLASSES, 11, "so many classes: " + classNames);
        breaksIf(unit.getPackageName() != null || unit.getTypeDecls().size() != 1, 1, "one class");
    }

    private void breaksIf(boolean isBroken, int rule, String what) {
        if (isBroken) {
            broken.add(rule + ": " + (method.isEmpty() ? "" : "in " + method + ": ") + what);
        }
    }

    @Override
    public Void visitImport(ImportTree tree, Void none) {
        breaksIf(true, 4, "" + tree);
        return null;
    }

    // Classes and their members

    @Override
    public Void visitClass(ClassTree tree, Void none) {
        Set<Modifier> modifiers = tree.getModifiers().getFlags();
        boolean isInside = classDepth > 0;
        breaksIf(isInside && (tree.getSimpleName().length() == 0 || !method.isEmpty()), 2,
                "a local class");
        breaksIf(isInside && method.isEmpty() && !modifiers.contains(Modifier.STATIC), 2,
                "not static: " + tree.getSimpleName());
        breaksIf(isInside && (modifiers.contains(Modifier.PUBLIC)
                || modifiers.contains(Modifier.PROTECTED)), 1, "seen: " + tree.getSimpleName());
        breaksIf(!isInside && !modifiers.equals(Set.of(Modifier.PUBLIC, Modifier.FINAL)), 1,
                "public and final");
        members(tree);
        classDepth++;
        super.visitClass(tree, none);
        classDepth--;
        return null;
    }

    private void members(ClassTree tree) {
        int fields = 0;
        Set<String> publicNames = new HashSet<>();
        Set<String> otherNames = new HashSet<>();
        for (Tree member : tree.getMembers()) {
            if (member instanceof VariableTree field) {
                fields += field.getModifiers().getFlags().contains(Modifier.STATIC) ? 0 : 1;
                field(field);
            } else if (member instanceof MethodTree one) {
                Set<Modifier> modifiers = one.getModifiers().getFlags();
                boolean isPublic = modifiers.contains(Modifier.PUBLIC);
                (isPublic ? publicNames : otherNames).add(one.getName().toString());
                breaksIf(classDepth == 0 && !isPublic && !modifiers.contains(Modifier.PRIVATE), 1,
                        "seen: " + one.getName());
            } else if (member instanceof BlockTree) {
                breaksIf(true, 5, "an initialiser block");
            }
        }
        otherNames.retainAll(publicNames);
        breaksIf(!otherNames.isEmpty(), 1, "private ones with a public name: " + otherNames);
        breaksIf(fields > MOST_FIELDS, 11, "so many fields: " + fields);
    }

    private void field(VariableTree field) {
        Set<Modifier> modifiers = field.getModifiers().getFlags();
        boolean isStatic = modifiers.contains(Modifier.STATIC);
        breaksIf(isStatic && (!modifiers.contains(Modifier.FINAL)
                || !(field.getType() instanceof PrimitiveTypeTree)), 5, "static " + field.getName());
        breaksIf(classDepth == 0 && !isStatic && !modifiers.contains(Modifier.PRIVATE), 1,
                "seen: " + field.getName());
    }

    @Override
    public Void visitMethod(MethodTree tree, Void none) {
        String outerMethod = method;
        boolean outerConstructor = inConstructor;
        method = tree.getName().toString();
        inConstructor = tree.getReturnType() == null;
        lookedAt.clear();
        collectLookedAt(tree);
        breaksIf(tree.getParameters().size() > MOST_PARAMETERS, 11, "so many parameters");
        breaksIf(tree.toString().trim().lines().count() > MOST_LINES, 11, "so many lines");
        breaksIf(!tree.getThrows().isEmpty(), 6, "throws");
        if (!inConstructor) {
            type(tree.getReturnType());
        }
        super.visitMethod(tree, none);
        method = outerMethod;
        inConstructor = outerConstructor;
        return null;
    }

    private void collectLookedAt(MethodTree tree) {
        new TreeScanner<Void, Void>() {
            @Override
            public Void visitBinary(BinaryTree one, Void none) {
                if (COMPARISONS.contains(one.getKind())) {
                    lookedAt.addAll(namesIn(one));
                }
                return super.visitBinary(one, none);
            }

            @Override
            public Void visitMethodInvocation(MethodInvocationTree one, Void none) {
                if (GUARDS.contains(one.getMethodSelect().toString())) {
                    one.getArguments().forEach(argument -> lookedAt.addAll(namesIn(argument)));
                }
                return super.visitMethodInvocation(one, none);
            }
        }.scan(tree.getBody(), null);
    }

    // Types and the library

    @Override
    public Void visitVariable(VariableTree tree, Void none) {
        type(tree.getType());
        return super.visitVariable(tree, none);
    }

    @Override
    public Void visitTypeCast(TypeCastTree tree, Void none) {
        type(tree.getType());
        return super.visitTypeCast(tree, none);
    }

    private void type(Tree tree) {
        Tree element = tree instanceof ArrayTypeTree array ? array.getType() : tree;
        if (element instanceof IdentifierTree name && name.getName().contentEquals("String")) {
            return;
        }
        boolean isKnown = element instanceof PrimitiveTypeTree
                ? NUMBERS.contains(element.toString())
                : classNames.contains(element.toString());
        breaksIf(!isKnown, 3, "the type " + tree);
    }

    @Override
    public Void visitMemberSelect(MemberSelectTree tree, Void none) {
        if (LIBRARY_CLASSES.contains(tree.getExpression().toString())) {
            breaksIf(!LIBRARY.contains(tree.toString()), 4, "" + tree);
        }
        return super.visitMemberSelect(tree, none);
    }

    @Override
    public Void visitMethodInvocation(MethodInvocationTree tree, Void none) {
        String called = tree.getMethodSelect().toString();
        String name = called.substring(called.lastIndexOf('.') + 1);
        if (OF_OBJECTS.contains(name)) {
            breaksIf(true, 6, "" + tree);
        } else if (calls.containsKey(name) && !LIBRARY.contains(called)) {
            calls.computeIfAbsent(method, key -> new HashSet<>()).add(name);
        } else {
            breaksIf(!LIBRARY.contains(called) && !called.equals("super"), 4, "" + tree);
        }
        if (called.equals("Math.floorDiv")) {
            divisor(tree.getArguments().get(1));
        }
        return super.visitMethodInvocation(tree, none);
    }

    @Override
    public Void visitNewArray(NewArrayTree tree, Void none) {
        makes(tree);
        return super.visitNewArray(tree, none);
    }

    @Override
    public Void visitNewClass(NewClassTree tree, Void none) {
        if (tree.getClassBody() == null) {
            makes(tree);
        }
        return super.visitNewClass(tree, none);
    }

    private void makes(Tree tree) {
        breaksIf(loopDepth > 0 || !method.isEmpty() && !inConstructor, 12, "" + tree);
    }

    @Override
    public Void visitLiteral(LiteralTree tree, Void none) {
        breaksIf(tree.getKind() == Tree.Kind.STRING_LITERAL, 10, "a text: " + tree);
        return null;
    }

    // Indexes and divisors

    @Override
    public Void visitArrayAccess(ArrayAccessTree tree, Void none) {
        for (String name : namesIn(tree.getIndex())) {
            breaksIf(!isConstant(name) && !lookedAt.contains(name), 7, "not looked at: " + tree);
        }
        return super.visitArrayAccess(tree, none);
    }

    @Override
    public Void visitBinary(BinaryTree tree, Void none) {
        if (tree.getKind() == Tree.Kind.DIVIDE || tree.getKind() == Tree.Kind.REMAINDER) {
            divisor(tree.getRightOperand());
        }
        return super.visitBinary(tree, none);
    }

    @Override
    public Void visitCompoundAssignment(CompoundAssignmentTree tree, Void none) {
        if (tree.getKind() == Tree.Kind.DIVIDE_ASSIGNMENT
                || tree.getKind() == Tree.Kind.REMAINDER_ASSIGNMENT) {
            divisor(tree.getExpression());
        }
        return super.visitCompoundAssignment(tree, none);
    }

    private void divisor(ExpressionTree divisor) {
        boolean isNumber = divisor instanceof LiteralTree literal
                && literal.getValue() instanceof Number number && number.longValue() != 0;
        breaksIf(!isNumber && !lookedAt.contains(divisor.toString()), 7,
                "not looked at: the divisor " + divisor);
    }

    private static boolean isConstant(String name) {
        return name.equals(name.toUpperCase());
    }

    private static Set<String> namesIn(Tree tree) {
        Set<String> names = new HashSet<>();
        new TreeScanner<Void, Void>() {
            @Override
            public Void visitIdentifier(IdentifierTree one, Void none) {
                names.add(one.getName().toString());
                return null;
            }
        }.scan(tree, null);
        return names;
    }

    // Calls and loops

    private void callDepths() {
        Map<String, Integer> depths = new HashMap<>();
        for (String name : calls.keySet()) {
            int depth = depth(name, new ArrayList<>(), depths);
            breaksIf(depth > MOST_DEPTH, 11, "so deep a call: " + name);
        }
    }

    private int depth(String name, List<String> open, Map<String, Integer> depths) {
        if (open.contains(name)) {
            breaksIf(true, 8, "recursion");
            return 0;
        }
        if (!depths.containsKey(name)) {
            open.add(name);
            int deepest = 0;
            for (String called : calls.getOrDefault(name, Set.of())) {
                deepest = Math.max(deepest, depth(called, open, depths));
            }
            open.remove(name);
            depths.put(name, deepest + 1);
        }
        return depths.get(name);
    }

    @Override
    public Void visitForLoop(ForLoopTree tree, Void none) {
        loopEnds(tree.getCondition(), tree);
        loopDepth++;
        super.visitForLoop(tree, none);
        loopDepth--;
        return null;
    }

    @Override
    public Void visitWhileLoop(WhileLoopTree tree, Void none) {
        loopEnds(tree.getCondition(), tree);
        loopDepth++;
        super.visitWhileLoop(tree, none);
        loopDepth--;
        return null;
    }

    @Override
    public Void visitDoWhileLoop(DoWhileLoopTree tree, Void none) {
        breaksIf(true, 9, "do");
        return super.visitDoWhileLoop(tree, none);
    }

    @Override
    public Void visitEnhancedForLoop(EnhancedForLoopTree tree, Void none) {
        breaksIf(true, 9, "a loop over a row that is not counted");
        return super.visitEnhancedForLoop(tree, none);
    }

    /**
     * The condition holds, joined by && alone, a counter below a bound (or above one) that the loop
     * itself counts up (or down) by 1, or by a step that the condition too holds above 0.
     */
    private void loopEnds(ExpressionTree condition, Tree loop) {
        Set<String> held = new HashSet<>();
        comparisonsIn(condition, held);
        boolean[] ends = new boolean[1];
        new TreeScanner<Void, Void>() {
            @Override
            public Void visitUnary(UnaryTree one, Void none) {
                String counter = one.getExpression().toString();
                boolean isUp = one.getKind() == Tree.Kind.POSTFIX_INCREMENT;
                boolean isDown = one.getKind() == Tree.Kind.POSTFIX_DECREMENT;
                ends[0] |= isUp && held.contains(counter + " <")
                        || isDown && held.contains(counter + " > 0");
                return super.visitUnary(one, none);
            }

            @Override
            public Void visitCompoundAssignment(CompoundAssignmentTree one, Void none) {
                ends[0] |= one.getKind() == Tree.Kind.PLUS_ASSIGNMENT
                        && held.contains(one.getVariable() + " <")
                        && held.contains(one.getExpression() + " > 0");
                return super.visitCompoundAssignment(one, none);
            }

            @Override
            public Void visitAssignment(AssignmentTree one, Void none) {
                breaksIf(held.contains(one.getVariable() + " <"), 9,
                        "sets what it counts: " + one.getVariable());
                return super.visitAssignment(one, none);
            }
        }.scan(loop, null);
        breaksIf(!ends[0], 9, "no end is seen of the loop while " + condition);
    }

    private static void comparisonsIn(Tree condition, Set<String> held) {
        Tree open = condition instanceof ParenthesizedTree in ? in.getExpression() : condition;
        if (!(open instanceof BinaryTree one)) {
            return;
        }
        if (one.getKind() == Tree.Kind.CONDITIONAL_AND) {
            comparisonsIn(one.getLeftOperand(), held);
            comparisonsIn(one.getRightOperand(), held);
        } else if (one.getKind() == Tree.Kind.LESS_THAN
                || one.getKind() == Tree.Kind.LESS_THAN_EQUAL) {
            held.add(one.getLeftOperand() + " <");
        } else if (one.getKind() == Tree.Kind.GREATER_THAN) {
            held.add(one.getLeftOperand() + " > " + one.getRightOperand());
        }
    }

    // What the rules leave out

    @Override
    public Void visitLambdaExpression(LambdaExpressionTree tree, Void none) {
        breaksIf(true, 2, "" + tree);
        return null;
    }

    @Override
    public Void visitMemberReference(MemberReferenceTree tree, Void none) {
        breaksIf(true, 2, "" + tree);
        return null;
    }

    @Override
    public Void visitThrow(ThrowTree tree, Void none) {
        breaksIf(true, 6, "throw");
        return super.visitThrow(tree, none);
    }

    @Override
    public Void visitTry(TryTree tree, Void none) {
        breaksIf(true, 6, "try");
        return super.visitTry(tree, none);
    }

    @Override
    public Void visitSynchronized(SynchronizedTree tree, Void none) {
        breaksIf(true, 6, "synchronized");
        return super.visitSynchronized(tree, none);
    }

    @Override
    public Void visitAssert(AssertTree tree, Void none) {
        breaksIf(true, 6, "assert");
        return super.visitAssert(tree, none);
    }

    @Override
    public Void visitInstanceOf(InstanceOfTree tree, Void none) {
        breaksIf(true, 6, "instanceof, which the program does not need");
        return super.visitInstanceOf(tree, none);
    }

    @Override
    public Void visitSwitchExpression(SwitchExpressionTree tree, Void none) {
        breaksIf(true, 10, "a switch that answers");
        return super.visitSwitchExpression(tree, none);
    }

    @Override
    public Void visitAnnotation(AnnotationTree tree, Void none) {
        breaksIf(true, 4, "" + tree);
        return null;
    }
}
