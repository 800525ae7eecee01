import com.sun.source.tree.BinaryTree;
import com.sun.source.tree.BlockTree;
import com.sun.source.tree.ClassTree;
import com.sun.source.tree.CompilationUnitTree;
import com.sun.source.tree.ExpressionTree;
import com.sun.source.tree.ForLoopTree;
import com.sun.source.tree.ImportTree;
import com.sun.source.tree.LineMap;
import com.sun.source.tree.LiteralTree;
import com.sun.source.tree.MethodInvocationTree;
import com.sun.source.tree.MethodTree;
import com.sun.source.tree.NewClassTree;
import com.sun.source.tree.ThrowTree;
import com.sun.source.tree.Tree;
import com.sun.source.tree.VariableTree;
import com.sun.source.tree.WhileLoopTree;
import com.sun.source.util.JavacTask;
import com.sun.source.util.TreePathScanner;
import com.sun.source.util.Trees;
import java.io.IOException;
import java.nio.file.Files;
import java.nio.file.Path;
import java.util.EnumSet;
import java.util.HashMap;
import java.util.HashSet;
import java.util.List;
import java.util.Map;
import java.util.Set;
import java.util.TreeMap;
import java.util.TreeSet;
import javax.lang.model.element.Element;
import javax.lang.model.element.ElementKind;
import javax.lang.model.element.Modifier;
import javax.lang.model.element.TypeElement;
import javax.tools.JavaCompiler;
import javax.tools.StandardJavaFileManager;
import javax.tools.ToolProvider;

/**
 * The rules of ../shared/LANGUAGE.md that can be seen in the program's text, looked at in the compiler's tree of it.
 * What the program has no need of is refused altogether, even where a rule would allow it.
 */
public final class LanguageTest extends TreePathScanner<Void, Void> {
    private static final String PROGRAM = "src/main/java/FlowShelf.java";
    /** Without the last one, two written texts with a + between them would be one text in the tree. */
    private static final List<String> OPTIONS =
            List.of("--release", "17", "-proc:none", "-XDallowStringFolding=false");

    private static final Set<Tree.Kind> ALLOWED_KINDS = EnumSet.of(Tree.Kind.COMPILATION_UNIT, Tree.Kind.IMPORT,
            Tree.Kind.CLASS, Tree.Kind.METHOD, Tree.Kind.VARIABLE, Tree.Kind.MODIFIERS, Tree.Kind.BLOCK,
            Tree.Kind.PRIMITIVE_TYPE, Tree.Kind.ARRAY_TYPE, Tree.Kind.PARAMETERIZED_TYPE, Tree.Kind.IDENTIFIER,
            Tree.Kind.MEMBER_SELECT, Tree.Kind.METHOD_INVOCATION, Tree.Kind.NEW_CLASS, Tree.Kind.NEW_ARRAY,
            Tree.Kind.ARRAY_ACCESS, Tree.Kind.ASSIGNMENT, Tree.Kind.PARENTHESIZED, Tree.Kind.CONDITIONAL_EXPRESSION,
            Tree.Kind.EXPRESSION_STATEMENT, Tree.Kind.IF, Tree.Kind.FOR_LOOP, Tree.Kind.WHILE_LOOP, Tree.Kind.SWITCH,
            Tree.Kind.CASE, Tree.Kind.BREAK, Tree.Kind.CONTINUE, Tree.Kind.RETURN, Tree.Kind.THROW,
            Tree.Kind.INT_LITERAL, Tree.Kind.LONG_LITERAL, Tree.Kind.BOOLEAN_LITERAL, Tree.Kind.STRING_LITERAL,
            Tree.Kind.NULL_LITERAL, Tree.Kind.PLUS, Tree.Kind.MINUS, Tree.Kind.MULTIPLY, Tree.Kind.UNARY_MINUS,
            Tree.Kind.PLUS_ASSIGNMENT, Tree.Kind.MINUS_ASSIGNMENT, Tree.Kind.POSTFIX_INCREMENT,
            Tree.Kind.POSTFIX_DECREMENT, Tree.Kind.AND, Tree.Kind.OR, Tree.Kind.OR_ASSIGNMENT, Tree.Kind.LEFT_SHIFT,
            Tree.Kind.RIGHT_SHIFT, Tree.Kind.UNSIGNED_RIGHT_SHIFT, Tree.Kind.UNSIGNED_RIGHT_SHIFT_ASSIGNMENT,
            Tree.Kind.CONDITIONAL_AND, Tree.Kind.CONDITIONAL_OR, Tree.Kind.LOGICAL_COMPLEMENT, Tree.Kind.LESS_THAN,
            Tree.Kind.LESS_THAN_EQUAL, Tree.Kind.GREATER_THAN, Tree.Kind.GREATER_THAN_EQUAL, Tree.Kind.EQUAL_TO,
            Tree.Kind.NOT_EQUAL_TO);
    private static final Set<String> ALLOWED_IMPORTS = Set.of("java.util.ArrayList", "java.util.Arrays");
    private static final Set<String> ALLOWED_LIBRARY = Set.of("java.util.ArrayList.add", "java.util.ArrayList.get",
            "java.util.ArrayList.remove", "java.util.ArrayList.size", "java.util.ArrayList.isEmpty",
            "java.util.ArrayList.clear", "java.util.Arrays.fill", "java.util.Arrays.copyOf", "java.lang.Math.min",
            "java.lang.Math.max", "java.lang.Math.abs", "java.lang.Object.<init>");
    private static final Set<String> ALLOWED_EXCEPTIONS = Set.of("IllegalStateException", "IllegalArgumentException",
            "IndexOutOfBoundsException", "UnsupportedOperationException");
    private static final Set<String> SIMPLE_TYPES = Set.of("int", "long", "boolean", "int[]", "long[]", "boolean[]");
    private static final Set<String> STATIC_TYPES = Set.of("int", "int[]");
    private static final Set<String> OBJECT_METHODS = Set.of("equals", "hashCode", "toString", "clone", "finalize");

    private static final int MOST_PARAMETERS = 7;
    private static final int MOST_LINES = 60;
    private static final int MOST_CALLS_DEEP = 8;
    private static final int MOST_CLASSES = 12;
    private static final int MOST_FIELDS = 20;

    private final CompilationUnitTree unit;
    private final Trees trees;
    private final Set<String> publicNames = new TreeSet<>();
    private final Set<String> classes = new TreeSet<>();
    /** Each method with those that it calls. */
    private final Map<Element, Set<Element>> calls = new HashMap<>();
    private final Map<String, Integer> instanceFields = new TreeMap<>();

    private LanguageTest(CompilationUnitTree unit, Trees trees) {
        this.unit = unit;
        this.trees = trees;
    }

    public static void main(String[] args) throws IOException {
        JavaCompiler compiler = ToolProvider.getSystemJavaCompiler();
        try (StandardJavaFileManager files = compiler.getStandardFileManager(null, null, null)) {
            JavacTask task = (JavacTask) compiler.getTask(null, files, null, OPTIONS, null,
                    files.getJavaFileObjects(PROGRAM));
            for (CompilationUnitTree unit : task.parse()) {
                task.analyze();
                new LanguageTest(unit, Trees.instance(task)).check();
            }
        }
        for (int each : Files.readString(Path.of(PROGRAM)).chars().toArray()) {
            if (each > 126) {
                Checks.due("a character of the program", "one of ASCII", Integer.toString(each));
            }
        }
        Checks.close();
    }

    private void check() {
        Checks.due("the program has a package line", false, unit.getPackageName() != null);
        Checks.due("classes beside one another in the file", 1, unit.getTypeDecls().size());
        for (Tree each : ((ClassTree) unit.getTypeDecls().get(0)).getMembers()) {
            if (each instanceof MethodTree method && isOf(method, Modifier.PUBLIC)) {
                publicNames.add(method.getName().toString());
            }
            if (each instanceof ClassTree inside) {
                classes.add(inside.getSimpleName().toString());
            }
        }
        Checks.due("public names, the constructor's too", 22, publicNames.size());
        scan(unit, null);
        Checks.due(classes.size() + 1 + " classes are few enough", true, classes.size() + 1 <= MOST_CLASSES);
        instanceFields.forEach((name, fields) ->
                Checks.due(name + " has few enough fields (" + fields + ")", true, fields <= MOST_FIELDS));
        for (Element each : Set.copyOf(calls.keySet())) {
            if (each.getModifiers().contains(Modifier.PUBLIC)) {
                int depth = depthOf(each, 1);
                Checks.due(each + " calls " + depth + " deep", true, depth <= MOST_CALLS_DEEP);
            }
        }
    }

    /** How many calls stand open at once at most; beyond the bound it need not be known, so a recursion ends too. */
    private int depthOf(Element method, int depth) {
        int deepest = depth;
        if (depth <= MOST_CALLS_DEEP) {
            for (Element each : calls.getOrDefault(method, Set.of())) {
                deepest = Math.max(deepest, depthOf(each, depth + 1));
            }
        }
        return deepest;
    }

    private void rule(int number, boolean holds, String what, Tree at) {
        long start = trees.getSourcePositions().getStartPosition(unit, at);
        long line = start < 0 ? 0 : unit.getLineMap().getLineNumber(start);
        Checks.due("rule " + number + ", line " + line + ": " + what, true, holds);
    }

    private static boolean isOf(MethodTree method, Modifier modifier) {
        return method.getModifiers().getFlags().contains(modifier);
    }

    private static boolean isConstructor(MethodTree method) {
        return method.getReturnType() == null;
    }

    private MethodTree methodAround() {
        for (Tree each : getCurrentPath()) {
            if (each instanceof MethodTree method) {
                return method;
            }
        }
        return null;
    }

    @Override
    public Void scan(Tree tree, Void p) {
        if (tree != null) {
            rule(10, ALLOWED_KINDS.contains(tree.getKind()), "a tree of " + tree.getKind(), tree);
        }
        return super.scan(tree, p);
    }

    @Override
    public Void visitImport(ImportTree tree, Void p) {
        rule(4, ALLOWED_IMPORTS.contains(tree.getQualifiedIdentifier().toString()), tree.toString().trim(), tree);
        return null;
    }

    @Override
    public Void visitClass(ClassTree tree, Void p) {
        Tree around = getCurrentPath().getParentPath().getLeaf();
        Set<Modifier> flags = tree.getModifiers().getFlags();
        boolean isOuter = around == unit;
        rule(2, isOuter || around == unit.getTypeDecls().get(0), tree.getSimpleName() + " stands in the class", tree);
        rule(1, flags.contains(isOuter ? Modifier.PUBLIC : Modifier.PRIVATE)
                && flags.contains(isOuter ? Modifier.FINAL : Modifier.STATIC), tree.getSimpleName() + " " + flags, tree);
        int fields = 0;
        for (Tree each : tree.getMembers()) {
            rule(5, !(each instanceof BlockTree), "a block of " + tree.getSimpleName(), each);
            if (each instanceof VariableTree field && !field.getModifiers().getFlags().contains(Modifier.STATIC)) {
                fields++;
            }
        }
        instanceFields.put(tree.getSimpleName().toString(), fields);
        return super.visitClass(tree, p);
    }

    @Override
    public Void visitVariable(VariableTree tree, Void p) {
        String type = String.valueOf(tree.getType());
        String part = type.replaceFirst("^ArrayList<(\\w+)>$", "$1").replaceFirst("\\[\\]$", "");
        rule(3, SIMPLE_TYPES.contains(type) || classes.contains(part), type + " " + tree.getName(), tree);
        Set<Modifier> flags = tree.getModifiers().getFlags();
        if (flags.contains(Modifier.STATIC)) {
            rule(5, flags.contains(Modifier.FINAL) && flags.contains(Modifier.PRIVATE) && STATIC_TYPES.contains(type),
                    "static " + tree.getName(), tree);
        }
        return super.visitVariable(tree, p);
    }

    @Override
    public Void visitMethod(MethodTree tree, Void p) {
        String name = tree.getName().toString();
        long length = linesOf(tree);
        rule(11, length <= MOST_LINES, name + " has " + length + " lines", tree);
        rule(11, tree.getParameters().size() <= MOST_PARAMETERS, name + " takes few enough parameters", tree);
        rule(1, isOf(tree, Modifier.PUBLIC) || isConstructor(tree) || !publicNames.contains(name),
                name + " is no public one's name", tree);
        rule(6, !OBJECT_METHODS.contains(name), name + " is none of every object's methods", tree);
        calls.put(trees.getElement(getCurrentPath()), new HashSet<>());
        return super.visitMethod(tree, p);
    }

    /** A constructor that the compiler made has no end, and counts as no line. */
    private long linesOf(MethodTree tree) {
        LineMap lines = unit.getLineMap();
        long start = trees.getSourcePositions().getStartPosition(unit, tree);
        long end = trees.getSourcePositions().getEndPosition(unit, tree);
        return end <= start ? 0 : lines.getLineNumber(end) - lines.getLineNumber(start) + 1;
    }

    @Override
    public Void visitThrow(ThrowTree tree, Void p) {
        MethodTree around = methodAround();
        rule(6, around != null && !isConstructor(around), "no throw in a constructor", tree);
        boolean isPlain = false;
        if (tree.getExpression() instanceof NewClassTree made && made.getClassBody() == null) {
            isPlain = ALLOWED_EXCEPTIONS.contains(made.getIdentifier().toString());
            for (ExpressionTree each : made.getArguments()) {
                isPlain &= each instanceof LiteralTree;
            }
        }
        rule(6, isPlain, tree.toString(), tree);
        return super.visitThrow(tree, p);
    }

    @Override
    public Void visitNewClass(NewClassTree tree, Void p) {
        Element made = trees.getElement(getCurrentPath());
        String type = tree.getIdentifier().toString();
        boolean isThrown = getCurrentPath().getParentPath().getLeaf() instanceof ThrowTree;
        rule(4, tree.getClassBody() == null && (isThrown || classes.contains(type) || type.equals("ArrayList<>")),
                "new " + type, tree);
        noteCall(made);
        return super.visitNewClass(tree, p);
    }

    @Override
    public Void visitMethodInvocation(MethodInvocationTree tree, Void p) {
        Element called = trees.getElement(getCurrentPath());
        TypeElement owner = (TypeElement) called.getEnclosingElement();
        boolean isLibrary = owner.getQualifiedName().toString().startsWith("java");
        String name = owner.getQualifiedName() + "." + called.getSimpleName();
        rule(4, !isLibrary || ALLOWED_LIBRARY.contains(name), name, tree);
        MethodTree around = methodAround();
        rule(12, around == null || !isConstructor(around) || isLibrary, name + " in a constructor", tree);
        noteCall(called);
        return super.visitMethodInvocation(tree, p);
    }

    private void noteCall(Element called) {
        MethodTree around = methodAround();
        boolean isOwn = called.getEnclosingElement().toString().startsWith("FlowShelf");
        if (around != null && isOwn && called.getKind() != ElementKind.CLASS) {
            calls.get(trees.getElement(trees.getPath(unit, around))).add(called);
        }
    }

    @Override
    public Void visitBinary(BinaryTree tree, Void p) {
        for (ExpressionTree each : List.of(tree.getLeftOperand(), tree.getRightOperand())) {
            String type = String.valueOf(trees.getTypeMirror(trees.getPath(unit, each)));
            rule(10, !type.equals("java.lang.String"), "a text in " + tree, tree);
        }
        return super.visitBinary(tree, p);
    }

    @Override
    public Void visitForLoop(ForLoopTree tree, Void p) {
        rule(9, tree.getCondition() instanceof BinaryTree && tree.getUpdate().size() == 1, "for has a bound", tree);
        return super.visitForLoop(tree, p);
    }

    @Override
    public Void visitWhileLoop(WhileLoopTree tree, Void p) {
        rule(9, tree.getCondition().toString().matches("\\(\\w+ > 0 && .*\\)"), "while counts down to 0", tree);
        return super.visitWhileLoop(tree, p);
    }
}
