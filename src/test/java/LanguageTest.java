import com.sun.source.tree.BinaryTree;
import com.sun.source.tree.ClassTree;
import com.sun.source.tree.CompilationUnitTree;
import com.sun.source.tree.EnhancedForLoopTree;
import com.sun.source.tree.ForLoopTree;
import com.sun.source.tree.ImportTree;
import com.sun.source.tree.LiteralTree;
import com.sun.source.tree.MethodInvocationTree;
import com.sun.source.tree.MethodTree;
import com.sun.source.tree.NewArrayTree;
import com.sun.source.tree.NewClassTree;
import com.sun.source.tree.ThrowTree;
import com.sun.source.tree.Tree;
import com.sun.source.tree.TypeCastTree;
import com.sun.source.tree.VariableTree;
import com.sun.source.util.JavacTask;
import com.sun.source.util.TreePath;
import com.sun.source.util.TreePathScanner;
import com.sun.source.util.Trees;
import java.nio.file.Path;
import java.util.ArrayList;
import java.util.EnumSet;
import java.util.HashMap;
import java.util.LinkedHashSet;
import java.util.List;
import java.util.Map;
import java.util.Set;
import javax.lang.model.element.Element;
import javax.lang.model.element.ExecutableElement;
import javax.lang.model.element.Modifier;
import javax.lang.model.type.TypeMirror;
import javax.tools.JavaCompiler;
import javax.tools.StandardJavaFileManager;
import javax.tools.ToolProvider;

/**
 * What can be seen of the rules of LANGUAGE.md in the program's text, as javac reads it. It asks for less than the rules
 * allow, where the program needs less: no loops but for, no catch, no recursion, nothing made behind the constructors.
 */
public final class LanguageTest {
    private static final Expect EXPECT = new Expect();
    private static final Path PROGRAM = Path.of("src/main/java/Lineartide.java");

    /** Rule 1 to 12: kinds of trees that the program does without, whether or not a rule would let some of them be. */
    private static final Set<Tree.Kind> WITHOUT = EnumSet.of(Tree.Kind.LAMBDA_EXPRESSION, Tree.Kind.MEMBER_REFERENCE, Tree.Kind.TRY,
        Tree.Kind.CATCH, Tree.Kind.SYNCHRONIZED, Tree.Kind.ASSERT, Tree.Kind.INSTANCE_OF, Tree.Kind.WHILE_LOOP, Tree.Kind.DO_WHILE_LOOP,
        Tree.Kind.SWITCH_EXPRESSION, Tree.Kind.YIELD, Tree.Kind.BINDING_PATTERN, Tree.Kind.ANNOTATION,
        Tree.Kind.PARAMETERIZED_TYPE, Tree.Kind.DOUBLE_LITERAL, Tree.Kind.FLOAT_LITERAL, Tree.Kind.NULL_LITERAL, Tree.Kind.PACKAGE);

    /** Rule 4: what the program takes of the library. */
    private static final Set<String> LIBRARY = Set.of("java.util.Arrays.fill(int[],int)", "java.util.Arrays.fill(long[],long)",
        "java.lang.Math.min(int,int)", "java.lang.Math.max(int,int)", "java.lang.Object.Object()",
        "java.lang.System.arraycopy(java.lang.Object,int,java.lang.Object,int,int)");

    /** Rule 3: types of fields, variables, parameters and answers. */
    private static final Set<String> TYPES = Set.of("void", "int", "long", "boolean", "int[]", "long[]");

    /** Rule 6. */
    private static final Set<String> THROWN = Set.of("IndexOutOfBoundsException", "IllegalArgumentException", "IllegalStateException");

    private final Map<Element, Set<Element>> calls = new HashMap<>();
    private final List<Element> faces = new ArrayList<>();
    private final Trees trees;
    private final CompilationUnitTree unit;

    private LanguageTest(Trees trees, CompilationUnitTree unit) {
        this.trees = trees;
        this.unit = unit;
    }

    private String where(Tree tree) {
        return "line " + unit.getLineMap().getLineNumber(trees.getSourcePositions().getStartPosition(unit, tree));
    }

    private void holds(int rule, String what, Tree tree, boolean holds) {
        EXPECT.due("rule " + rule + ", " + where(tree) + ": " + what, true, holds);
    }

    private long lines(Tree tree) {
        long from = trees.getSourcePositions().getStartPosition(unit, tree);
        long to = trees.getSourcePositions().getEndPosition(unit, tree);
        return unit.getLineMap().getLineNumber(to) - unit.getLineMap().getLineNumber(from) + 1;
    }

    private static boolean isOwn(Element element) {
        return element.toString().equals("Lineartide") || element.toString().startsWith("Lineartide.");
    }

    private final class Scanner extends TreePathScanner<Void, Void> {
        private int classes = 0;

        private Element element(Tree tree) {
            return trees.getElement(new TreePath(getCurrentPath(), tree));
        }

        private MethodTree method() {
            for (TreePath path = getCurrentPath(); path != null; path = path.getParentPath()) {
                if (path.getLeaf() instanceof MethodTree method) {
                    return method;
                }
            }
            return null;
        }

        private boolean isInMaking() {
            return method() == null || method().getReturnType() == null;
        }

        private void called(Element to) {
            Element from = method() == null ? null : trees.getElement(trees.getPath(unit, method()));
            if (from != null) {
                calls.computeIfAbsent(from, e -> new LinkedHashSet<>()).add(to);
            }
        }

        @Override
        public Void scan(Tree tree, Void nothing) {
            if (tree != null) {
                holds(1, "the program does without " + tree.getKind(), tree, !WITHOUT.contains(tree.getKind()));
            }
            return super.scan(tree, nothing);
        }

        @Override
        public Void visitImport(ImportTree tree, Void nothing) {
            holds(4, tree.toString().trim(), tree, tree.toString().trim().equals("import java.util.Arrays;"));
            return null;
        }

        @Override
        public Void visitClass(ClassTree tree, Void nothing) {
            classes++;
            Set<Modifier> flags = tree.getModifiers().getFlags();
            boolean outer = getCurrentPath().getParentPath().getLeaf() == unit;
            if (outer) {
                holds(1, "the class", tree, tree.getSimpleName().contentEquals("Lineartide") && flags.contains(Modifier.PUBLIC));
            } else {
                boolean hidden = !flags.contains(Modifier.PUBLIC) && !flags.contains(Modifier.PROTECTED);
                holds(2, "a class inside is static", tree, flags.contains(Modifier.STATIC) && hidden);
            }
            long fields = tree.getMembers().stream().filter(m -> m instanceof VariableTree v && !v.getModifiers().getFlags().contains(Modifier.STATIC)).count();
            holds(11, "some twenty fields at most", tree, fields <= 20);
            holds(11, "some twelve classes at most", tree, classes <= 12);
            return super.visitClass(tree, nothing);
        }

        private boolean isAllowed(TypeMirror type) {
            String name = type.toString();
            String bare = name.endsWith("[]") ? name.substring(0, name.length() - 2) : name;
            return TYPES.contains(name) || bare.startsWith("Lineartide.") && !bare.endsWith("]");
        }

        @Override
        public Void visitVariable(VariableTree tree, Void nothing) {
            Set<Modifier> flags = tree.getModifiers().getFlags();
            Element element = trees.getElement(getCurrentPath());
            holds(3, "the type of " + tree.getName(), tree, isAllowed(element.asType()));
            if (flags.contains(Modifier.STATIC)) {
                boolean constant = ((javax.lang.model.element.VariableElement) element).getConstantValue() != null;
                holds(5, tree.getName() + " is a constant", tree, flags.contains(Modifier.FINAL) && constant);
            }
            return super.visitVariable(tree, nothing);
        }

        @Override
        public Void visitMethod(MethodTree tree, Void nothing) {
            Element element = trees.getElement(getCurrentPath());
            holds(11, tree.getName() + " takes at most seven parameters", tree, tree.getParameters().size() <= 7);
            holds(11, tree.getName() + " has some sixty lines at most", tree, lines(tree) <= 60);
            holds(3, "what " + tree.getName() + " answers", tree, isAllowed(((ExecutableElement) element).getReturnType()));
            calls.computeIfAbsent(element, e -> new LinkedHashSet<>());
            if (tree.getModifiers().getFlags().contains(Modifier.PUBLIC)) {
                faces.add(element);
            }
            return super.visitMethod(tree, nothing);
        }

        @Override
        public Void visitMethodInvocation(MethodInvocationTree tree, Void nothing) {
            Element element = trees.getElement(getCurrentPath());
            if (isOwn(element.getEnclosingElement())) {
                called(element);
            } else {
                String name = element.getEnclosingElement() + "." + (element.getSimpleName().contentEquals("<init>") ? "Object()" : element);
                holds(4, name, tree, LIBRARY.contains(name));
            }
            return super.visitMethodInvocation(tree, nothing);
        }

        @Override
        public Void visitThrow(ThrowTree tree, Void nothing) {
            holds(6, "no throw in a constructor", tree, !isInMaking());
            boolean known = tree.getExpression() instanceof NewClassTree made && THROWN.contains(made.getIdentifier().toString())
                && made.getArguments().size() <= 1 && made.getArguments().stream().allMatch(a -> a.getKind() == Tree.Kind.STRING_LITERAL);
            holds(6, "what is thrown", tree, known);
            return super.visitThrow(tree, nothing);
        }

        @Override
        public Void visitNewClass(NewClassTree tree, Void nothing) {
            boolean thrown = getCurrentPath().getParentPath().getLeaf() instanceof ThrowTree;
            holds(12, "nothing is made by a call but what it throws", tree, thrown || isInMaking());
            holds(2, "no class without a name", tree, tree.getClassBody() == null);
            if (!thrown) {
                called(element(tree));
            }
            return super.visitNewClass(tree, nothing);
        }

        @Override
        public Void visitNewArray(NewArrayTree tree, Void nothing) {
            holds(12, "no array is made by a call", tree, isInMaking());
            return super.visitNewArray(tree, nothing);
        }

        @Override
        public Void visitForLoop(ForLoopTree tree, Void nothing) {
            boolean bound = tree.getCondition() != null && tree.getCondition().toString().matches(".*(<|>|<=|>=) .*");
            holds(9, "the loop has a bound that is seen", tree, bound && tree.getInitializer().size() == 1 && tree.getUpdate().size() == 1);
            return super.visitForLoop(tree, nothing);
        }

        @Override
        public Void visitEnhancedForLoop(EnhancedForLoopTree tree, Void nothing) {
            holds(9, "no loop without an index", tree, false);
            return super.visitEnhancedForLoop(tree, nothing);
        }

        @Override
        public Void visitTypeCast(TypeCastTree tree, Void nothing) {
            holds(6, "casts of numbers only", tree, Set.of("int", "long").contains(tree.getType().toString()));
            return super.visitTypeCast(tree, nothing);
        }

        @Override
        public Void visitBinary(BinaryTree tree, Void nothing) {
            boolean texts = tree.getLeftOperand().getKind() == Tree.Kind.STRING_LITERAL || tree.getRightOperand().getKind() == Tree.Kind.STRING_LITERAL;
            holds(10, "no texts are joined", tree, !texts);
            return super.visitBinary(tree, nothing);
        }

        @Override
        public Void visitLiteral(LiteralTree tree, Void nothing) {
            boolean plain = !(tree.getValue() instanceof String text) || text.chars().allMatch(c -> c >= 1 && c <= 127);
            holds(4, "the signs of a text", tree, plain);
            return super.visitLiteral(tree, nothing);
        }
    }

    /** How deep the calls from a method go, it itself counted; far too deep, if it comes back to itself. */
    private int depth(Element method, List<Element> open) {
        if (open.contains(method)) {
            return 1000;
        }
        open.add(method);
        int deepest = 0;
        for (Element next : calls.getOrDefault(method, Set.of())) {
            deepest = Math.max(deepest, depth(next, open));
        }
        open.remove(open.size() - 1);
        return deepest + 1;
    }

    private void depths() {
        int deepest = 0;
        for (Element face : faces) {
            int depth = depth(face, new ArrayList<>());
            deepest = Math.max(deepest, depth);
            EXPECT.due("rules 8 and 11: calls of " + face + " go " + depth + " deep", true, depth <= 8);
        }
        EXPECT.due("methods of the face, and the constructor", 23, faces.size());
        EXPECT.due("calls were found", true, deepest > 3);
    }

    public static void main(String[] args) throws Exception {
        JavaCompiler compiler = ToolProvider.getSystemJavaCompiler();
        try (StandardJavaFileManager files = compiler.getStandardFileManager(null, null, null)) {
            JavacTask task = (JavacTask) compiler.getTask(null, files, null, List.of("-proc:none"), null, files.getJavaFileObjects(PROGRAM));
            CompilationUnitTree unit = task.parse().iterator().next();
            task.analyze();
            EXPECT.due("one class in the file", 1, unit.getTypeDecls().size());
            EXPECT.due("rule 1: no package line", true, unit.getPackageName() == null);
            LanguageTest test = new LanguageTest(Trees.instance(task), unit);
            test.new Scanner().scan(unit, null);
            test.depths();
        }
        EXPECT.end();
    }
}
