import com.sun.source.tree.*;
import com.sun.source.util.JavacTask;
import com.sun.source.util.TreePath;
import com.sun.source.util.TreePathScanner;
import com.sun.source.util.Trees;
import java.nio.file.Files;
import java.nio.file.Path;
import java.util.HashMap;
import java.util.List;
import java.util.Map;
import java.util.Set;
import java.util.TreeMap;
import java.util.TreeSet;
import javax.lang.model.element.Element;
import javax.lang.model.element.Modifier;
import javax.lang.model.element.VariableElement;
import javax.lang.model.type.ArrayType;
import javax.lang.model.type.TypeKind;
import javax.lang.model.type.TypeMirror;
import javax.tools.JavaCompiler;
import javax.tools.StandardJavaFileManager;
import javax.tools.ToolProvider;

/**
 * The rules of LANGUAGE.md that can be read off the class's text, by the compiler's own tree of it.
 * Where the class keeps to less than a rule leaves it (no recursion, no double, no text, no object made
 * by a call), the less is asked.
 */
public final class SecretDaysLanguage extends TreePathScanner<Void, Void> {
    private static final Set<String> LIBRARY = Set.of("java.util.Arrays.fill", "java.lang.System.arraycopy", "java.lang.Math.max",
        "java.lang.Math.min", "java.lang.Integer.bitCount", "java.lang.Object.<init>");
    private static final int MOST_PARAMETERS = 7;
    private static final int MOST_LINES = 60;
    private static final int MOST_DEPTH = 8;
    private static final int MOST_CLASSES = 12;
    private static final int MOST_FIELDS = 20;

    private static int asked = 0;
    private static int broken = 0;

    private final Trees trees;
    private final CompilationUnitTree unit;
    /** Of each method whom it calls. */
    private final Map<String, Set<String>> calls = new TreeMap<>();
    private int classes = 0;
    private int loops = 0;

    private SecretDaysLanguage(Trees trees, CompilationUnitTree unit) {
        this.trees = trees;
        this.unit = unit;
    }

    private static void must(String rule, boolean kept) {
        asked++;
        if (!kept) {
            broken++;
            System.out.println("broken: " + rule);
        }
    }

    private void mustHere(String rule, Tree tree, boolean kept) {
        must(rule + ", line " + lineOf(trees.getSourcePositions().getStartPosition(unit, tree)), kept);
    }

    private long lineOf(long position) {
        return unit.getLineMap().getLineNumber(Math.max(0, position));
    }

    private Element elementOf(Tree tree) {
        return trees.getElement(new TreePath(getCurrentPath(), tree));
    }

    private Element elementHere() {
        return trees.getElement(getCurrentPath());
    }

    private TypeMirror typeOf(Tree tree) {
        return trees.getTypeMirror(new TreePath(getCurrentPath(), tree));
    }

    private static String nameOf(Element method) {
        return method.getEnclosingElement() + "." + method.getSimpleName();
    }

    private static boolean isOwn(Element element) {
        return element != null && (element.toString() + ".").startsWith("SecretDays.");
    }

    @Override
    public Void visitImport(ImportTree tree, Void none) {
        mustHere("4. only Arrays is imported", tree, tree.toString().trim().equals("import java.util.Arrays;"));
        return null;
    }

    @Override
    public Void visitClass(ClassTree tree, Void none) {
        classes++;
        boolean outer = getCurrentPath().getParentPath().getLeaf() instanceof CompilationUnitTree;
        Set<Modifier> has = tree.getModifiers().getFlags();
        if (outer) {
            mustHere("1. the class is public and final", tree, has.contains(Modifier.PUBLIC) && has.contains(Modifier.FINAL));
        } else {
            mustHere("2. a class inside is a member", tree, getCurrentPath().getParentPath().getLeaf() instanceof ClassTree);
            mustHere("2. a class inside is static", tree, has.contains(Modifier.STATIC));
            mustHere("1. a class inside is not public", tree, !has.contains(Modifier.PUBLIC) && !has.contains(Modifier.PROTECTED));
        }
        int fields = 0;
        for (Tree member : tree.getMembers()) {
            mustHere("5. no initialiser block", member, !(member instanceof BlockTree));
            if (member instanceof VariableTree field) {
                fields += field.getModifiers().getFlags().contains(Modifier.STATIC) ? 0 : 1;
                lookAtField(field, outer);
            }
        }
        mustHere("11. some twenty fields", tree, fields <= MOST_FIELDS);
        return super.visitClass(tree, none);
    }

    private void lookAtField(VariableTree field, boolean outer) {
        Set<Modifier> has = field.getModifiers().getFlags();
        if (outer) {
            mustHere("1. private, or NONE", field, has.contains(Modifier.PRIVATE) || field.getName().contentEquals("NONE"));
        }
        if (has.contains(Modifier.STATIC)) {
            mustHere("5. what is static is final", field, has.contains(Modifier.FINAL));
            Element element = elementOf(field);
            boolean constant = element instanceof VariableElement variable && variable.getConstantValue() != null;
            boolean row = field.getInitializer() instanceof NewArrayTree written && written.getInitializers() != null
                && Set.of("int[]", "long[]", "char[]", "byte[]").contains(element.asType().toString());
            mustHere("5. what is static is a constant, or a row written out", field, constant || row);
        }
    }

    @Override
    public Void visitMethod(MethodTree tree, Void none) {
        Element method = elementHere();
        calls.computeIfAbsent(nameOf(method), name -> new TreeSet<>());
        mustHere("11. seven parameters", tree, tree.getParameters().size() <= MOST_PARAMETERS);
        mustHere("6. throws nothing", tree, tree.getThrows().isEmpty());
        long first = lineOf(trees.getSourcePositions().getStartPosition(unit, tree));
        long last = lineOf(trees.getSourcePositions().getEndPosition(unit, tree));
        mustHere("11. some sixty lines", tree, last - first < MOST_LINES);
        Set<Modifier> has = tree.getModifiers().getFlags();
        boolean outer = nameOf(method).lastIndexOf('.') == "SecretDays".length();
        mustHere("1. public or private", tree, !outer || has.contains(Modifier.PUBLIC) || has.contains(Modifier.PRIVATE));
        return super.visitMethod(tree, none);
    }

    /** The method in which the scan is; null in a field's initialiser. */
    private TreePath methodHere() {
        TreePath path = getCurrentPath();
        while (path != null && !(path.getLeaf() instanceof MethodTree)) {
            path = path.getParentPath();
        }
        return path;
    }

    private boolean isInConstructor() {
        TreePath path = methodHere();
        return path == null || ((MethodTree) path.getLeaf()).getReturnType() == null;
    }

    private void addCall(Element called) {
        TreePath path = methodHere();
        if (path != null) {
            calls.computeIfAbsent(nameOf(trees.getElement(path)), name -> new TreeSet<>()).add(nameOf(called));
        }
    }

    @Override
    public Void visitMethodInvocation(MethodInvocationTree tree, Void none) {
        Element called = elementHere();
        mustHere("the call is known", tree, called != null);
        if (isOwn(called.getEnclosingElement())) {
            addCall(called);
        } else {
            mustHere("4. " + nameOf(called) + " is in the library", tree, LIBRARY.contains(nameOf(called)));
            if (nameOf(called).equals("java.util.Arrays.fill")) {
                String type = typeOf(tree.getArguments().get(0)).toString();
                mustHere("4. fill over numbers, not " + type, tree, type.equals("int[]") || type.equals("long[]"));
            }
        }
        return super.visitMethodInvocation(tree, none);
    }

    @Override
    public Void visitNewClass(NewClassTree tree, Void none) {
        mustHere("2. no anonymous class", tree, tree.getClassBody() == null);
        Element made = elementHere();
        mustHere("3. an own class is made", tree, isOwn(made.getEnclosingElement()));
        mustHere("12. made by a constructor alone", tree, isInConstructor());
        addCall(made);
        return super.visitNewClass(tree, none);
    }

    @Override
    public Void visitNewArray(NewArrayTree tree, Void none) {
        mustHere("12. made by a constructor alone", tree, isInConstructor());
        mustHere("3. of one dimension", tree, tree.getDimensions().size() <= 1);
        return super.visitNewArray(tree, none);
    }

    @Override
    public Void visitVariable(VariableTree tree, Void none) {
        TypeMirror type = elementHere().asType();
        TypeMirror part = type instanceof ArrayType array ? array.getComponentType() : type;
        boolean number = part.getKind().isPrimitive() && part.getKind() != TypeKind.DOUBLE && part.getKind() != TypeKind.FLOAT;
        mustHere("3. the type " + type, tree, number || part.toString().startsWith("SecretDays"));
        return super.visitVariable(tree, none);
    }

    @Override
    public Void visitBinary(BinaryTree tree, Void none) {
        if (tree.getKind() == Tree.Kind.DIVIDE || tree.getKind() == Tree.Kind.REMAINDER) {
            mustHere("7. the divisor is a constant, not 0", tree, isConstantButZero(tree.getRightOperand()));
        }
        for (ExpressionTree side : List.of(tree.getLeftOperand(), tree.getRightOperand())) {
            mustHere("6. and 10. on numbers and truths alone", tree, typeOf(side).getKind().isPrimitive());
        }
        return super.visitBinary(tree, none);
    }

    private boolean isConstantButZero(ExpressionTree tree) {
        Object value = tree instanceof LiteralTree literal ? literal.getValue()
            : elementOf(tree) instanceof VariableElement variable ? variable.getConstantValue() : null;
        return value instanceof Number number && number.longValue() != 0;
    }

    @Override
    public Void visitCompoundAssignment(CompoundAssignmentTree tree, Void none) {
        boolean divides = tree.getKind() == Tree.Kind.DIVIDE_ASSIGNMENT || tree.getKind() == Tree.Kind.REMAINDER_ASSIGNMENT;
        mustHere("7. the divisor is a constant, not 0", tree, !divides || isConstantButZero(tree.getExpression()));
        mustNotChangeStatic(tree.getVariable());
        return super.visitCompoundAssignment(tree, none);
    }

    @Override
    public Void visitAssignment(AssignmentTree tree, Void none) {
        mustNotChangeStatic(tree.getVariable());
        return super.visitAssignment(tree, none);
    }

    private void mustNotChangeStatic(ExpressionTree target) {
        ExpressionTree row = target instanceof ArrayAccessTree access ? access.getExpression() : target;
        Element element = elementOf(row);
        boolean isStatic = element != null && element.getModifiers().contains(Modifier.STATIC);
        mustHere("5. a static row is never changed", target, !isStatic);
    }

    @Override
    public Void visitTypeCast(TypeCastTree tree, Void none) {
        mustHere("6. a cast among numbers", tree, typeOf(tree.getType()).getKind().isPrimitive());
        return super.visitTypeCast(tree, none);
    }

    @Override
    public Void visitLiteral(LiteralTree tree, Void none) {
        mustHere("3. no text, no double", tree, !Set.of(Tree.Kind.STRING_LITERAL, Tree.Kind.DOUBLE_LITERAL, Tree.Kind.FLOAT_LITERAL,
            Tree.Kind.NULL_LITERAL).contains(tree.getKind()));
        return super.visitLiteral(tree, none);
    }

    private void lookAtLoop(Tree tree, ExpressionTree condition) {
        loops++;
        boolean bounded = condition != null && !(condition instanceof LiteralTree)
            && !(condition instanceof ParenthesizedTree brackets && brackets.getExpression() instanceof LiteralTree);
        mustHere("9. the loop has a condition", tree, bounded);
        boolean compares = condition != null && condition.toString().matches("(?s).*(<|>).*");
        mustHere("9. a counter against a bound", tree, compares);
    }

    @Override
    public Void visitForLoop(ForLoopTree tree, Void none) {
        lookAtLoop(tree, tree.getCondition());
        mustHere("9. the counter goes on", tree, tree.getUpdate().size() == 1);
        return super.visitForLoop(tree, none);
    }

    @Override
    public Void visitWhileLoop(WhileLoopTree tree, Void none) {
        lookAtLoop(tree, tree.getCondition());
        return super.visitWhileLoop(tree, none);
    }

    @Override
    public Void visitDoWhileLoop(DoWhileLoopTree tree, Void none) {
        lookAtLoop(tree, tree.getCondition());
        return super.visitDoWhileLoop(tree, none);
    }

    private Void forbidden(String rule, Tree tree) {
        mustHere(rule, tree, false);
        return null;
    }

    @Override
    public Void visitLambdaExpression(LambdaExpressionTree tree, Void none) {
        return forbidden("2. no lambda", tree);
    }

    @Override
    public Void visitMemberReference(MemberReferenceTree tree, Void none) {
        return forbidden("2. no method reference", tree);
    }

    @Override
    public Void visitThrow(ThrowTree tree, Void none) {
        return forbidden("6. no throw", tree);
    }

    @Override
    public Void visitTry(TryTree tree, Void none) {
        return forbidden("6. no try", tree);
    }

    @Override
    public Void visitSynchronized(SynchronizedTree tree, Void none) {
        return forbidden("6. no synchronized", tree);
    }

    @Override
    public Void visitAssert(AssertTree tree, Void none) {
        return forbidden("6. no assert", tree);
    }

    /** The most calls that stand open at once from a method on; a method that calls itself goes too deep. */
    private int depth(String method, int open, Map<String, Integer> known) {
        if (open > 2 * MOST_DEPTH) {
            return open;
        }
        if (!known.containsKey(method)) {
            int deepest = 0;
            for (String next : calls.getOrDefault(method, Set.of())) {
                deepest = Math.max(deepest, depth(next, open + 1, known));
            }
            known.put(method, 1 + deepest);
        }
        return known.get(method);
    }

    private void lookAtWhole() {
        must("11. some twelve classes, not " + classes, classes <= MOST_CLASSES);
        must("the scan has seen the loops", loops > 50);
        must("the scan has seen the methods", calls.size() > 100);
        int deepest = 0;
        for (String method : calls.keySet()) {
            int depth = depth(method, 1, new HashMap<>());
            deepest = Math.max(deepest, depth);
            must("11. and 8. eight deep, no recursion: " + method + " goes " + depth, depth <= MOST_DEPTH);
        }
        must("the scan has followed the calls", deepest > 4);
    }

    private static void lookAtSigns(Path path) throws Exception {
        String text = Files.readString(path);
        for (int i = 0; i < text.length(); i++) {
            char sign = text.charAt(i);
            must("4. sign " + i + " is plain", sign == '\n' || sign >= ' ' && sign < 127);
        }
    }

    public static void main(String[] args) throws Exception {
        Path path = Path.of(args.length > 0 ? args[0] : "src/main/java/SecretDays.java");
        lookAtSigns(path);
        JavaCompiler compiler = ToolProvider.getSystemJavaCompiler();
        try (StandardJavaFileManager files = compiler.getStandardFileManager(null, null, null)) {
            JavacTask task = (JavacTask) compiler.getTask(null, files, null, List.of("-proc:none", "-Xlint:all"), null, files.getJavaFileObjects(path));
            CompilationUnitTree unit = task.parse().iterator().next();
            task.analyze();
            must("no package", unit.getPackageName() == null);
            must("one class in the file", unit.getTypeDecls().size() == 1);
            SecretDaysLanguage look = new SecretDaysLanguage(Trees.instance(task), unit);
            look.scan(unit, null);
            look.lookAtWhole();
        }
        System.out.println(broken == 0 ? asked + " times a rule is kept" : broken + " times a rule is broken");
        if (broken != 0) {
            System.exit(1);
        }
    }
}
