import com.sun.source.tree.AssertTree;
import com.sun.source.tree.BinaryTree;
import com.sun.source.tree.BlockTree;
import com.sun.source.tree.ClassTree;
import com.sun.source.tree.CompilationUnitTree;
import com.sun.source.tree.CompoundAssignmentTree;
import com.sun.source.tree.DoWhileLoopTree;
import com.sun.source.tree.ExpressionTree;
import com.sun.source.tree.ForLoopTree;
import com.sun.source.tree.ImportTree;
import com.sun.source.tree.InstanceOfTree;
import com.sun.source.tree.LambdaExpressionTree;
import com.sun.source.tree.LiteralTree;
import com.sun.source.tree.MemberReferenceTree;
import com.sun.source.tree.MethodInvocationTree;
import com.sun.source.tree.MethodTree;
import com.sun.source.tree.NewArrayTree;
import com.sun.source.tree.NewClassTree;
import com.sun.source.tree.ParenthesizedTree;
import com.sun.source.tree.SwitchExpressionTree;
import com.sun.source.tree.SwitchTree;
import com.sun.source.tree.SynchronizedTree;
import com.sun.source.tree.ThrowTree;
import com.sun.source.tree.Tree;
import com.sun.source.tree.TryTree;
import com.sun.source.tree.TypeCastTree;
import com.sun.source.tree.UnaryTree;
import com.sun.source.tree.VariableTree;
import com.sun.source.tree.WhileLoopTree;
import com.sun.source.util.JavacTask;
import com.sun.source.util.TreePath;
import com.sun.source.util.TreePathScanner;
import com.sun.source.util.TreeScanner;
import com.sun.source.util.Trees;
import java.io.IOException;
import java.nio.charset.StandardCharsets;
import java.nio.file.Files;
import java.nio.file.Path;
import java.util.HashMap;
import java.util.HashSet;
import java.util.LinkedHashMap;
import java.util.LinkedHashSet;
import java.util.List;
import java.util.Map;
import java.util.Set;
import javax.lang.model.element.Element;
import javax.lang.model.element.ElementKind;
import javax.lang.model.element.ExecutableElement;
import javax.lang.model.element.Modifier;
import javax.lang.model.element.TypeElement;
import javax.lang.model.element.VariableElement;
import javax.lang.model.type.ArrayType;
import javax.lang.model.type.DeclaredType;
import javax.lang.model.type.TypeKind;
import javax.lang.model.type.TypeMirror;
import javax.tools.JavaCompiler;
import javax.tools.StandardJavaFileManager;
import javax.tools.ToolProvider;

/**
 * BridgeChapel.java keeps to LANGUAGE.md. The compiler reads the file, so that names and types are known; where the
 * rules leave more than the class uses, this test asks for what it uses alone. Another file can be named as argument.
 */
public final class LanguageTest extends TreePathScanner<Void, Void> {
    private static final int MOST_PARAMETERS = 7;
    private static final int MOST_LINES = 60;
    private static final int DEEPEST_CALL = 8;
    private static final int MOST_CLASSES = 12;
    private static final int MOST_FIELDS = 20;

    private static final Set<String> IMPORTS = Set.of("java.util.NoSuchElementException");
    private static final Set<String> LIBRARY = Set.of("String.length()", "String.charAt(int)", "Math.min(int,int)",
            "Math.max(int,int)", "System.arraycopy(java.lang.Object,int,java.lang.Object,int,int)");
    private static final Set<String> EXCEPTIONS = Set.of("java.lang.IllegalStateException",
            "java.lang.IllegalArgumentException", "java.lang.IndexOutOfBoundsException",
            "java.lang.ArithmeticException", "java.lang.UnsupportedOperationException",
            "java.util.NoSuchElementException", "java.lang.RuntimeException");
    private static final Set<TypeKind> NUMBERS = Set.of(TypeKind.INT, TypeKind.LONG, TypeKind.SHORT, TypeKind.BYTE,
            TypeKind.CHAR, TypeKind.DOUBLE, TypeKind.FLOAT);
    private static final Set<Tree.Kind> COMPARISONS = Set.of(Tree.Kind.LESS_THAN, Tree.Kind.LESS_THAN_EQUAL,
            Tree.Kind.GREATER_THAN, Tree.Kind.GREATER_THAN_EQUAL);
    private static final Set<Tree.Kind> DIVISIONS = Set.of(Tree.Kind.DIVIDE, Tree.Kind.REMAINDER,
            Tree.Kind.DIVIDE_ASSIGNMENT, Tree.Kind.REMAINDER_ASSIGNMENT);

    private final Trees trees;
    private final CompilationUnitTree unit;
    private final String source;
    private final Map<Element, Set<Element>> calls = new LinkedHashMap<>();
    private final Map<Element, MethodTree> methods = new HashMap<>();
    private final Set<String> faceNames = new HashSet<>();
    private TypeElement face;
    private Element method;
    private int classes = 0;
    private int wrong = 0;

    private LanguageTest(Trees trees, CompilationUnitTree unit) throws IOException {
        this.trees = trees;
        this.unit = unit;
        this.source = unit.getSourceFile().getCharContent(true).toString();
    }

    public static void main(String[] args) throws IOException {
        Path file = Path.of(args.length > 0 ? args[0] : "src/main/java/BridgeChapel.java");
        JavaCompiler compiler = ToolProvider.getSystemJavaCompiler();
        StandardJavaFileManager files = compiler.getStandardFileManager(null, null, StandardCharsets.UTF_8);
        JavacTask task = (JavacTask) compiler.getTask(null, files, null, List.of("-proc:none", "--release", "17"), null,
                files.getJavaFileObjects(file));
        CompilationUnitTree unit = task.parse().iterator().next();
        task.analyze();
        LanguageTest test = new LanguageTest(Trees.instance(task), unit);
        test.checkSigns(Files.readString(file, StandardCharsets.ISO_8859_1));
        test.scan(unit, null);
        test.checkCalls();
        System.out.println(test.wrong == 0 ? "the class keeps to its language: " + test.classes + " classes, "
                + test.methods.size() + " methods" : test.wrong + " faults");
        System.exit(test.wrong == 0 ? 0 : 1);
    }

    private void demand(boolean holds, int rule, Tree tree, String otherwise) {
        if (!holds) {
            wrong++;
            System.out.println("rule " + rule + ", line " + lineOf(startOf(tree)) + ": " + otherwise);
        }
    }

    private long startOf(Tree tree) {
        return trees.getSourcePositions().getStartPosition(unit, tree);
    }

    private long endOf(Tree tree) {
        return trees.getSourcePositions().getEndPosition(unit, tree);
    }

    private long lineOf(long position) {
        return position < 0 ? 0 : unit.getLineMap().getLineNumber(position);
    }

    private Element elementOf(Tree tree) {
        return trees.getElement(TreePath.getPath(unit, tree));
    }

    private TypeMirror typeOf(Tree tree) {
        return trees.getTypeMirror(TreePath.getPath(unit, tree));
    }

    private boolean isOwn(Element element) {
        for (Element outer = element; outer != null; outer = outer.getEnclosingElement()) {
            if (outer.equals(face)) {
                return true;
            }
        }
        return false;
    }

    private void checkSigns(String text) {
        for (int index = 0; index < text.length(); index++) {
            demand(text.charAt(index) < 127, 4, unit, "a sign at " + index + " is not plain");
        }
    }

    // ---- Rules 1, 2, 5 and 11: the classes and their members ----

    @Override
    public Void visitCompilationUnit(CompilationUnitTree tree, Void none) {
        demand(tree.getPackage() == null, 1, tree, "there is a package");
        demand(tree.getTypeDecls().size() == 1, 1, tree, "there is more than one class at the top");
        for (Tree declared : tree.getTypeDecls()) {
            face = (TypeElement) elementOf(declared);
            for (Element member : face.getEnclosedElements()) {
                if (member.getKind() == ElementKind.METHOD && member.getModifiers().contains(Modifier.PUBLIC)) {
                    faceNames.add(member.getSimpleName().toString());
                }
            }
        }
        return super.visitCompilationUnit(tree, none);
    }

    @Override
    public Void visitImport(ImportTree tree, Void none) {
        demand(IMPORTS.contains(tree.getQualifiedIdentifier().toString()), 4, tree, "not listed: " + tree);
        return super.visitImport(tree, none);
    }

    @Override
    public Void visitClass(ClassTree tree, Void none) {
        classes++;
        demand(classes <= MOST_CLASSES, 11, tree, "there are too many classes");
        Element self = elementOf(tree);
        Set<Modifier> modifiers = self.getModifiers();
        demand(self.getKind() == ElementKind.CLASS && modifiers.contains(Modifier.FINAL)
                && tree.getExtendsClause() == null && tree.getImplementsClause().isEmpty()
                && tree.getTypeParameters().isEmpty(), 2, tree, "not a plain final class: " + self);
        if (self.equals(face)) {
            demand(self.toString().equals("BridgeChapel") && modifiers.contains(Modifier.PUBLIC), 1, tree,
                    "the face has another name or is not public");
        } else {
            demand(self.getEnclosingElement().equals(face) && modifiers.contains(Modifier.STATIC)
                    && !modifiers.contains(Modifier.PUBLIC) && !modifiers.contains(Modifier.PROTECTED), 1, tree,
                    self + " is not a private or package-visible static class of the face");
        }
        int fields = 0;
        for (Element member : self.getEnclosedElements()) {
            boolean constant = member.getModifiers().contains(Modifier.STATIC);
            fields += member.getKind() == ElementKind.FIELD && !constant ? 1 : 0;
        }
        demand(fields <= MOST_FIELDS, 11, tree, self + " has too many fields");
        return super.visitClass(tree, none);
    }

    @Override
    public Void visitMethod(MethodTree tree, Void none) {
        Element outer = method;
        method = elementOf(tree);
        methods.put(method, tree);
        calls.computeIfAbsent(method, key -> new LinkedHashSet<>());
        checkMethod(tree);
        super.visitMethod(tree, none);
        method = outer;
        return null;
    }

    private void checkMethod(MethodTree tree) {
        Set<Modifier> modifiers = method.getModifiers();
        boolean open = modifiers.contains(Modifier.PUBLIC);
        if (method.getEnclosingElement().equals(face)) {
            demand(open || modifiers.contains(Modifier.PRIVATE), 1, tree, method + " is neither public nor private");
        }
        demand(open && method.getEnclosingElement().equals(face)
                || !faceNames.contains(method.getSimpleName().toString()), 1, tree, method + " has a name of the face");
        demand(tree.getParameters().size() <= MOST_PARAMETERS, 11, tree, method + " takes too many parameters");
        demand(tree.getTypeParameters().isEmpty(), 2, tree, method + " is generic");
        long lines = lineOf(endOf(tree)) - lineOf(startOf(tree)) + 1;
        demand(lines <= MOST_LINES, 11, tree, method + " has " + lines + " lines");
    }

    @Override
    public Void visitBlock(BlockTree tree, Void none) {
        boolean initialiser = getCurrentPath().getParentPath().getLeaf() instanceof ClassTree;
        demand(!initialiser, 5, tree, "an initialiser block");
        return super.visitBlock(tree, none);
    }

    // ---- Rules 3 and 5: the types ----

    private boolean isElementType(TypeMirror type) {
        Element named = type.getKind() == TypeKind.DECLARED
                ? ((DeclaredType) type).asElement() : null;
        return NUMBERS.contains(type.getKind()) || type.getKind() == TypeKind.BOOLEAN || named != null && isOwn(named);
    }

    private boolean isAllowed(TypeMirror type) {
        if (type.getKind() != TypeKind.ARRAY) {
            return isElementType(type) || type.toString().equals("java.lang.String");
        }
        TypeMirror part = ((ArrayType) type).getComponentType();
        if (part.getKind() == TypeKind.ARRAY) {
            return NUMBERS.contains(((ArrayType) part).getComponentType().getKind());
        }
        return isElementType(part);
    }

    @Override
    public Void visitVariable(VariableTree tree, Void none) {
        VariableElement variable = (VariableElement) elementOf(tree);
        TypeMirror type = variable.asType();
        demand(isAllowed(type), 3, tree, "type " + type + " of " + variable);
        demand(!source.substring((int) startOf(tree), (int) endOf(tree)).matches("(?s).*\\bvar\\b.*"), 3, tree, "var");
        Set<Modifier> modifiers = variable.getModifiers();
        if (variable.getKind() == ElementKind.FIELD) {
            demand(!variable.getEnclosingElement().equals(face) || modifiers.contains(Modifier.PRIVATE), 1, tree,
                    variable + " is not private");
            demand(!modifiers.contains(Modifier.PUBLIC) && !modifiers.contains(Modifier.PROTECTED), 1, tree,
                    variable + " is public or protected");
        }
        if (modifiers.contains(Modifier.STATIC)) {
            demand(modifiers.contains(Modifier.FINAL) && variable.getConstantValue() != null, 5, tree,
                    variable + " is static and no constant");
        }
        return super.visitVariable(tree, none);
    }

    @Override
    public Void visitTypeCast(TypeCastTree tree, Void none) {
        demand(typeOf(tree).getKind().isPrimitive(), 6, tree, "a cast to a class");
        return super.visitTypeCast(tree, none);
    }

    @Override
    public Void visitLiteral(LiteralTree tree, Void none) {
        if (tree.getKind() == Tree.Kind.STRING_LITERAL || tree.getKind() == Tree.Kind.CHAR_LITERAL) {
            String text = String.valueOf(tree.getValue());
            for (int index = 0; index < text.length(); index++) {
                char sign = text.charAt(index);
                demand(sign >= 1 && sign <= 127, 4, tree, "the sign " + (int) sign);
            }
        }
        return super.visitLiteral(tree, none);
    }

    // ---- Rules 4, 6 and 12: what is called, thrown and made ----

    @Override
    public Void visitMethodInvocation(MethodInvocationTree tree, Void none) {
        ExecutableElement called = (ExecutableElement) elementOf(tree.getMethodSelect());
        if (isOwn(called)) {
            demand(method != null, 4, tree, "a field begins with what a method answers");
            calls.computeIfAbsent(method, key -> new LinkedHashSet<>()).add(called);
        } else if (called.getKind() != ElementKind.CONSTRUCTOR) {
            String name = called.getEnclosingElement().getSimpleName() + "." + called;
            demand(LIBRARY.contains(name), 4, tree, "the library's " + name);
        }
        return super.visitMethodInvocation(tree, none);
    }

    @Override
    public Void visitNewClass(NewClassTree tree, Void none) {
        demand(tree.getClassBody() == null, 2, tree, "an anonymous class");
        Element made = elementOf(tree.getIdentifier());
        boolean thrown = getCurrentPath().getParentPath().getLeaf() instanceof ThrowTree;
        if (!thrown) {
            demand(isOwn(made), 4, tree, "new " + made);
            checkMaker(tree);
        }
        return super.visitNewClass(tree, none);
    }

    @Override
    public Void visitNewArray(NewArrayTree tree, Void none) {
        checkMaker(tree);
        for (ExpressionTree length : tree.getDimensions()) {
            Object value = elementOf(length) instanceof VariableElement constant ? constant.getConstantValue() : null;
            demand(value instanceof Integer, 7, tree, "the length of an array is no constant");
        }
        return super.visitNewArray(tree, none);
    }

    /** This class makes all it needs with the chapel, which the rules do not ask for but which keeps the room small. */
    private void checkMaker(Tree tree) {
        demand(method == null || method.getKind() == ElementKind.CONSTRUCTOR, 12, tree, method + " makes an object");
    }

    @Override
    public Void visitThrow(ThrowTree tree, Void none) {
        demand(method.getKind() != ElementKind.CONSTRUCTOR, 6, tree, "a throw in a constructor");
        if (tree.getExpression() instanceof NewClassTree thrown) {
            demand(EXCEPTIONS.contains(elementOf(thrown.getIdentifier()).toString()), 6, tree, "throws " + thrown);
            for (ExpressionTree argument : thrown.getArguments()) {
                demand(argument.getKind() == Tree.Kind.STRING_LITERAL, 6, tree, "the text is not written out");
            }
        } else {
            demand(false, 6, tree, "throws what it did not make");
        }
        return super.visitThrow(tree, none);
    }

    // ---- Rules 2, 6 and 10: what the class does without ----

    @Override
    public Void visitTry(TryTree tree, Void none) {
        demand(false, 6, tree, "a try");
        return super.visitTry(tree, none);
    }

    @Override
    public Void visitSynchronized(SynchronizedTree tree, Void none) {
        demand(false, 6, tree, "synchronized");
        return super.visitSynchronized(tree, none);
    }

    @Override
    public Void visitAssert(AssertTree tree, Void none) {
        demand(false, 6, tree, "an assert");
        return super.visitAssert(tree, none);
    }

    @Override
    public Void visitInstanceOf(InstanceOfTree tree, Void none) {
        demand(false, 6, tree, "an instanceof");
        return super.visitInstanceOf(tree, none);
    }

    @Override
    public Void visitLambdaExpression(LambdaExpressionTree tree, Void none) {
        demand(false, 2, tree, "a lambda");
        return super.visitLambdaExpression(tree, none);
    }

    @Override
    public Void visitMemberReference(MemberReferenceTree tree, Void none) {
        demand(false, 2, tree, "a method reference");
        return super.visitMemberReference(tree, none);
    }

    @Override
    public Void visitSwitchExpression(SwitchExpressionTree tree, Void none) {
        demand(false, 10, tree, "a switch that is an expression");
        return super.visitSwitchExpression(tree, none);
    }

    @Override
    public Void visitSwitch(SwitchTree tree, Void none) {
        demand(NUMBERS.contains(typeOf(tree.getExpression()).getKind()), 10, tree, "a switch on no number");
        return super.visitSwitch(tree, none);
    }

    @Override
    public Void visitBinary(BinaryTree tree, Void none) {
        demand(tree.getKind() != Tree.Kind.PLUS || typeOf(tree).getKind().isPrimitive(), 10, tree, "texts joined by +");
        boolean compares = tree.getKind() == Tree.Kind.EQUAL_TO || tree.getKind() == Tree.Kind.NOT_EQUAL_TO;
        demand(!compares || typeOf(tree.getLeftOperand()).getKind().isPrimitive(), 6, tree, "objects compared");
        if (DIVISIONS.contains(tree.getKind())) {
            checkDivisor(tree, tree.getRightOperand());
        }
        return super.visitBinary(tree, none);
    }

    @Override
    public Void visitCompoundAssignment(CompoundAssignmentTree tree, Void none) {
        demand(typeOf(tree).getKind().isPrimitive(), 10, tree, "texts joined by +=");
        if (DIVISIONS.contains(tree.getKind())) {
            checkDivisor(tree, tree.getExpression());
        }
        return super.visitCompoundAssignment(tree, none);
    }

    /** Whole numbers are divided by constants alone; for the others, the tests of the answers look for NaN. */
    private void checkDivisor(Tree division, ExpressionTree divisor) {
        TypeKind kind = typeOf(division).getKind();
        if (kind == TypeKind.DOUBLE || kind == TypeKind.FLOAT) {
            return;
        }
        Object value = divisor instanceof LiteralTree literal ? literal.getValue()
                : elementOf(divisor) instanceof VariableElement variable ? variable.getConstantValue() : null;
        demand(value instanceof Integer number && number > 0, 7, division, "divided by " + divisor);
    }

    // ---- Rule 9: the loops ----

    @Override
    public Void visitForLoop(ForLoopTree tree, Void none) {
        checkBound(tree, tree.getCondition());
        return super.visitForLoop(tree, none);
    }

    @Override
    public Void visitWhileLoop(WhileLoopTree tree, Void none) {
        checkBound(tree, tree.getCondition());
        return super.visitWhileLoop(tree, none);
    }

    @Override
    public Void visitDoWhileLoop(DoWhileLoopTree tree, Void none) {
        checkBound(tree, tree.getCondition());
        return super.visitDoWhileLoop(tree, none);
    }

    /** The loop goes on only while a number that its own lines change stays on one side of a bound. */
    private void checkBound(Tree loop, ExpressionTree condition) {
        Set<Element> compared = new HashSet<>();
        collectCompared(condition, compared);
        Set<Element> changed = new HashSet<>();
        new TreeScanner<Void, Void>() {
            @Override
            public Void visitUnary(UnaryTree tree, Void none) {
                if (tree.getKind() == Tree.Kind.POSTFIX_INCREMENT || tree.getKind() == Tree.Kind.POSTFIX_DECREMENT) {
                    changed.add(elementOf(tree.getExpression()));
                }
                return super.visitUnary(tree, none);
            }
        }.scan(loop, null);
        compared.retainAll(changed);
        compared.remove(null);
        demand(!compared.isEmpty(), 9, loop, "no counter against a bound: " + condition);
    }

    /** Looks through parentheses and "and", for with "or" no single comparison would end the loop. */
    private void collectCompared(Tree condition, Set<Element> compared) {
        if (condition instanceof ParenthesizedTree inner) {
            collectCompared(inner.getExpression(), compared);
        } else if (condition instanceof BinaryTree binary && binary.getKind() == Tree.Kind.CONDITIONAL_AND) {
            collectCompared(binary.getLeftOperand(), compared);
            collectCompared(binary.getRightOperand(), compared);
        } else if (condition instanceof BinaryTree binary && COMPARISONS.contains(binary.getKind())) {
            compared.add(elementOf(binary.getLeftOperand()));
        }
    }

    // ---- Rules 8 and 11: who calls whom ----

    private void checkCalls() {
        for (Element called : calls.keySet()) {
            MethodTree tree = methods.get(called);
            if (tree == null || !reaches(called, called, new HashSet<>())) {
                continue;
            }
            Set<Modifier> modifiers = called.getModifiers();
            demand(modifiers.contains(Modifier.PRIVATE) && modifiers.contains(Modifier.STATIC), 8, tree,
                    called + " calls itself and is not private and static");
            boolean carriesDepth = false;
            for (VariableTree parameter : tree.getParameters()) {
                carriesDepth = carriesDepth || parameter.getName().contentEquals("depth");
            }
            demand(carriesDepth, 8, tree, called + " calls itself and carries no depth");
        }
        for (Element member : face.getEnclosedElements()) {
            if (member.getKind() == ElementKind.METHOD && member.getModifiers().contains(Modifier.PUBLIC)) {
                int depth = depthOf(member, new HashSet<>());
                demand(depth <= DEEPEST_CALL, 11, methods.get(member), member + " goes " + depth + " calls deep");
            }
        }
    }

    private boolean reaches(Element from, Element to, Set<Element> seen) {
        for (Element next : calls.getOrDefault(from, Set.of())) {
            if (next.equals(to) || seen.add(next) && reaches(next, to, seen)) {
                return true;
            }
        }
        return false;
    }

    /** A call of a method that is open already is recursion and counts no further. */
    private int depthOf(Element from, Set<Element> open) {
        if (!open.add(from)) {
            return 0;
        }
        int deepest = 0;
        for (Element next : calls.getOrDefault(from, Set.of())) {
            deepest = Math.max(deepest, depthOf(next, open));
        }
        open.remove(from);
        return deepest + 1;
    }
}
