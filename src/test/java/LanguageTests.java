import com.sun.source.tree.BinaryTree;
import com.sun.source.tree.ClassTree;
import com.sun.source.tree.CompilationUnitTree;
import com.sun.source.tree.CompoundAssignmentTree;
import com.sun.source.tree.DoWhileLoopTree;
import com.sun.source.tree.ExpressionTree;
import com.sun.source.tree.ForLoopTree;
import com.sun.source.tree.IdentifierTree;
import com.sun.source.tree.MethodInvocationTree;
import com.sun.source.tree.MethodTree;
import com.sun.source.tree.NewArrayTree;
import com.sun.source.tree.NewClassTree;
import com.sun.source.tree.ParenthesizedTree;
import com.sun.source.tree.Tree;
import com.sun.source.tree.UnaryTree;
import com.sun.source.tree.VariableTree;
import com.sun.source.tree.WhileLoopTree;
import com.sun.source.util.JavacTask;
import com.sun.source.util.SourcePositions;
import com.sun.source.util.TreePath;
import com.sun.source.util.TreePathScanner;
import com.sun.source.util.TreeScanner;
import com.sun.source.util.Trees;
import java.nio.file.Files;
import java.nio.file.Path;
import java.util.ArrayList;
import java.util.HashMap;
import java.util.HashSet;
import java.util.LinkedHashMap;
import java.util.LinkedHashSet;
import java.util.List;
import java.util.Map;
import java.util.Set;
import java.util.stream.Stream;
import javax.lang.model.element.Element;
import javax.lang.model.element.ElementKind;
import javax.lang.model.element.Modifier;
import javax.tools.JavaCompiler;
import javax.tools.JavaFileObject;
import javax.tools.StandardJavaFileManager;
import javax.tools.ToolProvider;

/**
 * The rules of LANGUAGE.md that can be seen in the text of the class, as the compiler reads it; stricter where the
 * class needs less than they leave. Run from the project's folder.
 */
public final class LanguageTests {
    private static final Path FILE = Path.of("src/main/java/MirrorLane.java");

    /** All kinds of trees that the class has; another one is to be held against the rules before it is added. */
    private static final List<String> KINDS = List.of((
        "COMPILATION_UNIT IMPORT CLASS METHOD VARIABLE MODIFIERS PRIMITIVE_TYPE ARRAY_TYPE BLOCK IF FOR_LOOP "
        + "WHILE_LOOP DO_WHILE_LOOP ENHANCED_FOR_LOOP SWITCH CASE BREAK CONTINUE RETURN EXPRESSION_STATEMENT "
        + "PARENTHESIZED CONDITIONAL_EXPRESSION IDENTIFIER MEMBER_SELECT METHOD_INVOCATION ARRAY_ACCESS "
        + "NEW_CLASS NEW_ARRAY TYPE_CAST INT_LITERAL LONG_LITERAL CHAR_LITERAL BOOLEAN_LITERAL ASSIGNMENT PLUS "
        + "MINUS MULTIPLY DIVIDE REMAINDER AND OR XOR BITWISE_COMPLEMENT LEFT_SHIFT RIGHT_SHIFT UNARY_MINUS "
        + "CONDITIONAL_AND CONDITIONAL_OR LOGICAL_COMPLEMENT EQUAL_TO NOT_EQUAL_TO LESS_THAN LESS_THAN_EQUAL "
        + "GREATER_THAN GREATER_THAN_EQUAL POSTFIX_INCREMENT POSTFIX_DECREMENT PLUS_ASSIGNMENT MINUS_ASSIGNMENT "
        + "AND_ASSIGNMENT OR_ASSIGNMENT DIVIDE_ASSIGNMENT").split(" "));
    private static final List<String> LIBRARY = List.of("java.lang.Math.min", "java.lang.Math.max",
        "java.lang.Integer.bitCount", "java.util.Arrays.fill", "java.lang.System.arraycopy", "java.lang.Object.<init>");
    private static final List<String> NUMBERS = List.of("int", "long", "short", "byte", "char", "boolean");

    private final Trees trees;
    private final CompilationUnitTree unit;
    private final List<String> classes = new ArrayList<>();
    private final Map<Element, Set<Element>> calls = new LinkedHashMap<>();

    private LanguageTests(Trees trees, CompilationUnitTree unit) {
        this.trees = trees;
        this.unit = unit;
    }

    public static void main(String[] args) throws Exception {
        String source = Files.readString(FILE);
        for (int i = 0; i < source.length(); i++) {
            if (source.charAt(i) > 126 || source.charAt(i) == '\t') {
                due("plain characters, at " + i, false);
            }
        }
        for (String line : source.split("\n", -1)) {
            due("line is short: " + line, line.length() <= 120);
        }
        oneFile();
        read();
        Checks.end();
    }

    private static void due(String what, boolean holds) {
        Checks.due(what, holds, true);
    }

    private static void oneFile() throws Exception {
        try (Stream<Path> files = Files.walk(Path.of("src/main"))) {
            List<Path> all = files.filter(Files::isRegularFile).toList();
            due("one file: " + all, all.equals(List.of(FILE)));
        }
    }

    private static void read() throws Exception {
        JavaCompiler compiler = ToolProvider.getSystemJavaCompiler();
        try (StandardJavaFileManager files = compiler.getStandardFileManager(null, null, null)) {
            List<String> options = List.of("--release", "17", "-proc:none");
            Iterable<? extends JavaFileObject> sources = files.getJavaFileObjects(FILE);
            JavacTask task = (JavacTask) compiler.getTask(null, files, null, options, null, sources);
            CompilationUnitTree unit = task.parse().iterator().next();
            task.analyze();
            LanguageTests tests = new LanguageTests(Trees.instance(task), unit);
            tests.outside();
            tests.inside();
            tests.library();
            tests.depth();
        }
    }

    private String place(Tree tree) {
        SourcePositions positions = trees.getSourcePositions();
        return "line " + unit.getLineMap().getLineNumber(positions.getStartPosition(unit, tree)) + ": ";
    }

    private long lines(Tree tree) {
        SourcePositions positions = trees.getSourcePositions();
        long start = unit.getLineMap().getLineNumber(positions.getStartPosition(unit, tree));
        return unit.getLineMap().getLineNumber(positions.getEndPosition(unit, tree)) - start + 1;
    }

    private void outside() {
        due("no package", unit.getPackage() == null);
        due("one class", unit.getTypeDecls().size() == 1);
        due("one import", unit.getImports().size() == 1
            && unit.getImports().get(0).getQualifiedIdentifier().toString().equals("java.util.Arrays"));
        for (Tree member : ((ClassTree) unit.getTypeDecls().get(0)).getMembers()) {
            if (member instanceof ClassTree) {
                classes.add(((ClassTree) member).getSimpleName().toString());
            }
        }
        due("twelve classes: " + classes, classes.size() + 1 <= 12);
    }

    private void inside() {
        new TreePathScanner<Void, Element>() {
            @Override
            public Void scan(Tree tree, Element method) {
                if (tree != null && !KINDS.contains(tree.getKind().name())) {
                    due(place(tree) + tree.getKind(), false);
                }
                return super.scan(tree, method);
            }

            @Override
            public Void visitClass(ClassTree tree, Element method) {
                aClass(tree, getCurrentPath());
                return super.visitClass(tree, method);
            }

            @Override
            public Void visitMethod(MethodTree tree, Element method) {
                Element told = trees.getElement(getCurrentPath());
                calls.put(told, new LinkedHashSet<>());
                due(place(tree) + "seven parameters", tree.getParameters().size() <= 7);
                due(place(tree) + "sixty lines", lines(tree) <= 60);
                due(place(tree) + "no exceptions", tree.getThrows().isEmpty());
                return super.visitMethod(tree, told);
            }

            @Override
            public Void visitMethodInvocation(MethodInvocationTree tree, Element method) {
                Element called = trees.getElement(new TreePath(getCurrentPath(), tree.getMethodSelect()));
                due(place(tree) + "called in a method", method != null);
                if (method != null) {
                    calls.get(method).add(called);
                }
                return super.visitMethodInvocation(tree, method);
            }

            @Override
            public Void visitVariable(VariableTree tree, Element method) {
                String type = tree.getType().toString();
                String plain = type.replace("[]", "");
                int dimensions = (type.length() - plain.length()) / 2;
                boolean numbers = NUMBERS.contains(plain) && dimensions <= 2;
                due(place(tree) + "type " + type, numbers || classes.contains(plain) && dimensions <= 1);
                return super.visitVariable(tree, method);
            }

            @Override
            public Void visitNewClass(NewClassTree tree, Element method) {
                made(tree, method);
                due(place(tree) + "own class", classes.contains(tree.getIdentifier().toString()));
                due(place(tree) + "with no body", tree.getClassBody() == null);
                return super.visitNewClass(tree, method);
            }

            @Override
            public Void visitNewArray(NewArrayTree tree, Element method) {
                made(tree, method);
                return super.visitNewArray(tree, method);
            }

            @Override
            public Void visitForLoop(ForLoopTree tree, Element method) {
                hasEnd(tree, tree.getCondition());
                return super.visitForLoop(tree, method);
            }

            @Override
            public Void visitWhileLoop(WhileLoopTree tree, Element method) {
                hasEnd(tree, tree.getCondition());
                return super.visitWhileLoop(tree, method);
            }

            @Override
            public Void visitDoWhileLoop(DoWhileLoopTree tree, Element method) {
                hasEnd(tree, tree.getCondition());
                return super.visitDoWhileLoop(tree, method);
            }
        }.scan(unit, null);
    }

    private void aClass(ClassTree tree, TreePath path) {
        Set<Modifier> modifiers = tree.getModifiers().getFlags();
        boolean face = path.getParentPath().getLeaf() == unit;
        Set<Modifier> due = face ? Set.of(Modifier.PUBLIC, Modifier.FINAL)
            : Set.of(Modifier.PRIVATE, Modifier.STATIC, Modifier.FINAL);
        due(place(tree) + "modifiers of " + tree.getSimpleName(), modifiers.equals(due));
        due(place(tree) + "no class inside", face || tree.getMembers().stream().noneMatch(m -> m instanceof ClassTree));
        int fields = 0;
        for (Tree member : tree.getMembers()) {
            due(place(member) + "no initialiser block", member.getKind() != Tree.Kind.BLOCK);
            if (member instanceof VariableTree) {
                Set<Modifier> flags = ((VariableTree) member).getModifiers().getFlags();
                boolean fixed = flags.contains(Modifier.STATIC);
                due(place(member) + "a constant", !fixed || flags.contains(Modifier.FINAL)
                    && NUMBERS.contains(((VariableTree) member).getType().toString()));
                fields += fixed ? 0 : 1;
            }
        }
        due(place(tree) + "twenty fields", fields <= 20);
    }

    /** Objects and arrays are made with the lane alone: by fields and constructors. */
    private void made(Tree tree, Element method) {
        due(place(tree) + "made with the lane", method == null || method.getKind() == ElementKind.CONSTRUCTOR);
    }

    /** A loop counts: something that its condition compares is changed in its own lines. */
    private void hasEnd(Tree loop, ExpressionTree condition) {
        Set<String> compared = new HashSet<>();
        compared(condition, compared);
        Set<String> changed = new HashSet<>();
        new TreeScanner<Void, Void>() {
            @Override
            public Void visitUnary(UnaryTree tree, Void none) {
                boolean counts = tree.getKind().name().startsWith("POSTFIX_");
                changed.add(counts ? name(tree.getExpression()) : "no counter");
                return super.visitUnary(tree, none);
            }

            @Override
            public Void visitCompoundAssignment(CompoundAssignmentTree tree, Void none) {
                changed.add(name(tree.getVariable()));
                return super.visitCompoundAssignment(tree, none);
            }
        }.scan(loop, null);
        compared.remove("no name");
        compared.retainAll(changed);
        due(place(loop) + "its end can be seen", !compared.isEmpty());
    }

    /** The names that stand, alone or in a sum, in what a condition compares; what || leaves open doesn't count. */
    private static void compared(Tree tree, Set<String> names) {
        if (tree instanceof ParenthesizedTree) {
            compared(((ParenthesizedTree) tree).getExpression(), names);
        } else if (tree instanceof BinaryTree && tree.getKind() != Tree.Kind.CONDITIONAL_OR) {
            compared(((BinaryTree) tree).getLeftOperand(), names);
            compared(((BinaryTree) tree).getRightOperand(), names);
        } else {
            names.add(name(tree));
        }
    }

    private static String name(Tree tree) {
        return tree instanceof IdentifierTree ? tree.toString() : "no name";
    }

    private void library() {
        for (Set<Element> called : calls.values()) {
            for (Element one : called) {
                String name = one.getEnclosingElement() + "." + one.getSimpleName();
                due("in the library: " + name, calls.containsKey(one) || LIBRARY.contains(name));
            }
        }
    }

    private void depth() {
        Map<Element, Integer> known = new HashMap<>();
        for (Element method : calls.keySet()) {
            due("eight deep: " + method, depth(method, known, 0) <= 8);
        }
    }

    /** How many calls stand open at once, with this one; 99 if one comes back to itself. */
    private int depth(Element method, Map<Element, Integer> known, int open) {
        if (open > calls.size()) {
            return 99;
        }
        Integer before = known.get(method);
        int deepest = before != null ? before - 1 : 0;
        if (before == null) {
            for (Element called : calls.get(method)) {
                deepest = Math.max(deepest, calls.containsKey(called) ? depth(called, known, open + 1) : 0);
            }
            known.put(method, deepest + 1);
        }
        return deepest + 1;
    }
}
