import com.sun.source.tree.AssignmentTree;
import com.sun.source.tree.BinaryTree;
import com.sun.source.tree.ClassTree;
import com.sun.source.tree.CompilationUnitTree;
import com.sun.source.tree.CompoundAssignmentTree;
import com.sun.source.tree.ExpressionTree;
import com.sun.source.tree.ForLoopTree;
import com.sun.source.tree.IdentifierTree;
import com.sun.source.tree.LiteralTree;
import com.sun.source.tree.MethodInvocationTree;
import com.sun.source.tree.MethodTree;
import com.sun.source.tree.NewArrayTree;
import com.sun.source.tree.NewClassTree;
import com.sun.source.tree.PrimitiveTypeTree;
import com.sun.source.tree.Tree;
import com.sun.source.tree.UnaryTree;
import com.sun.source.tree.VariableTree;
import com.sun.source.tree.WhileLoopTree;
import com.sun.source.util.JavacTask;
import com.sun.source.util.TreePath;
import com.sun.source.util.TreePathScanner;
import com.sun.source.util.TreeScanner;
import com.sun.source.util.Trees;
import java.nio.file.Files;
import java.nio.file.Path;
import java.util.ArrayList;
import java.util.List;
import java.util.Map;
import java.util.Set;
import java.util.TreeMap;
import java.util.TreeSet;
import javax.lang.model.element.Element;
import javax.lang.model.element.Modifier;
import javax.lang.model.element.VariableElement;
import javax.tools.JavaCompiler;
import javax.tools.StandardJavaFileManager;
import javax.tools.ToolProvider;

/** The source as the compiler sees it, against the rules of LANGUAGE.md; each check says the rule's number. */
public final class LanguageTest {
    private static final Check CHECK = new Check();
    private static final String FILE = "src/main/java/RatSorters.java";
    private static final int MOST_DEEP = 8;
    private static final int MOST_LINES = 60;

    /** Rule 2, 6: kinds of trees that the language leaves out. */
    private static final Set<Tree.Kind> LEFT_OUT = Set.of(Tree.Kind.LAMBDA_EXPRESSION, Tree.Kind.MEMBER_REFERENCE,
            Tree.Kind.THROW, Tree.Kind.TRY, Tree.Kind.CATCH, Tree.Kind.SYNCHRONIZED, Tree.Kind.ASSERT, Tree.Kind.IMPORT,
            Tree.Kind.PACKAGE, Tree.Kind.SWITCH_EXPRESSION, Tree.Kind.YIELD, Tree.Kind.DO_WHILE_LOOP);
    /** Rule 4: what of the library the class may call (it needs less than the rule gives). */
    private static final Set<String> LIBRARY = Set.of("java.lang.String.length", "java.lang.String.charAt",
            "java.lang.String.indexOf", "java.lang.Math.min", "java.lang.Math.max", "java.lang.Integer.bitCount",
            "java.lang.System.arraycopy", "java.lang.Object.<init>");
    /** Rule 3: what may be declared, besides the class's own classes and rows of them. */
    private static final Set<String> TYPES = Set.of("int", "long", "char", "boolean", "int[]", "long[]", "char[]",
            "java.lang.String");

    private final Trees trees;
    private final CompilationUnitTree unit;
    /** Who calls whom, by class and method. */
    private final Map<String, Set<String>> calls = new TreeMap<>();

    private LanguageTest(Trees trees, CompilationUnitTree unit) {
        this.trees = trees;
        this.unit = unit;
    }

    public static void main(String[] args) throws Exception {
        JavaCompiler compiler = ToolProvider.getSystemJavaCompiler();
        StandardJavaFileManager files = compiler.getStandardFileManager(null, null, null);
        JavacTask task = (JavacTask) compiler.getTask(null, files, null, List.of("-proc:none"), null,
                files.getJavaFileObjects(Path.of(FILE)));
        CompilationUnitTree unit = task.parse().iterator().next();
        task.analyze();
        new LanguageTest(Trees.instance(task), unit).look();
        signs(Files.readString(Path.of(FILE)));
        CHECK.end("language");
    }

    private static void signs(String source) {
        long strange = source.chars().filter(sign -> sign > 126).count();
        CHECK.due("rule 4: signs beyond 127", strange, 0);
    }

    private void look() {
        CHECK.due("rule 1: one class in the file", unit.getTypeDecls().size(), 1);
        new Scanner().scan(unit, null);
        CHECK.due("methods were seen", calls.size() > 80, true);
        int deepest = 0;
        for (String method : calls.keySet()) {
            deepest = Math.max(deepest, depthOf(method, new ArrayList<>()));
        }
        CHECK.due("rule 11: calls at most eight deep, not " + deepest, deepest <= MOST_DEEP, true);
    }

    /** How many calls stand open at most, this one too; a method that comes back to itself is a failure. */
    private int depthOf(String method, List<String> open) {
        if (open.contains(method)) {
            CHECK.fail("rule 8: the class needs no recursion, but " + open + " comes back to " + method);
            return 0;
        }
        open.add(method);
        int deepest = 0;
        for (String called : calls.getOrDefault(method, Set.of())) {
            deepest = Math.max(deepest, depthOf(called, open));
        }
        open.remove(open.size() - 1);
        return 1 + deepest;
    }

    private static Set<String> namesIn(Tree tree) {
        Set<String> names = new TreeSet<>();
        new TreeScanner<Void, Void>() {
            @Override
            public Void visitIdentifier(IdentifierTree node, Void nothing) {
                names.add(node.getName().toString());
                return null;
            }
        }.scan(tree, null);
        return names;
    }

    /** What is stepped up or down in a tree by ++, --, += or -=; with all, whatever is set too. */
    private static Set<String> changedIn(Tree tree, boolean all) {
        Set<String> names = new TreeSet<>();
        new TreeScanner<Void, Void>() {
            @Override
            public Void visitUnary(UnaryTree node, Void nothing) {
                if (node.getKind().name().contains("CREMENT")) {
                    names.add(node.getExpression().toString());
                }
                return super.visitUnary(node, nothing);
            }

            @Override
            public Void visitCompoundAssignment(CompoundAssignmentTree node, Void nothing) {
                names.add(node.getVariable().toString());
                return super.visitCompoundAssignment(node, nothing);
            }

            @Override
            public Void visitAssignment(AssignmentTree node, Void nothing) {
                if (all) {
                    names.add(node.getVariable().toString());
                }
                return super.visitAssignment(node, nothing);
            }
        }.scan(tree, null);
        return names;
    }

    private static boolean share(Set<String> some, Set<String> others) {
        return some.stream().anyMatch(others::contains);
    }

    private final class Scanner extends TreePathScanner<Void, Void> {
        private String method = "";
        private MethodTree body;

        private Element elementOf(Tree tree) {
            return trees.getElement(TreePath.getPath(unit, tree));
        }

        private boolean isOwn(Element owner) {
            return owner.toString().startsWith("RatSorters");
        }

        @Override
        public Void scan(Tree tree, Void nothing) {
            if (tree != null) {
                CHECK.due("rules 2, 6: " + tree.getKind(), LEFT_OUT.contains(tree.getKind()), false);
            }
            return super.scan(tree, nothing);
        }

        @Override
        public Void visitClass(ClassTree node, Void nothing) {
            boolean inside = !node.getSimpleName().contentEquals("RatSorters");
            CHECK.due("rule 2: static: " + node.getSimpleName(), node.getModifiers().getFlags().contains(Modifier.STATIC),
                    inside);
            CHECK.due("rule 2: no class within a method or a class inside",
                    getCurrentPath().getParentPath().getLeaf() == (inside ? unit.getTypeDecls().get(0) : unit), true);
            return super.visitClass(node, nothing);
        }

        @Override
        public Void visitMethod(MethodTree node, Void nothing) {
            Element element = elementOf(node);
            method = element.getEnclosingElement() + "." + node.getName();
            body = node;
            CHECK.due("one method of a name: " + method, calls.containsKey(method), false);
            calls.put(method, new TreeSet<>());
            CHECK.due("rule 11: parameters of " + method, node.getParameters().size() <= 7, true);
            long from = unit.getLineMap().getLineNumber(trees.getSourcePositions().getStartPosition(unit, node));
            long to = unit.getLineMap().getLineNumber(trees.getSourcePositions().getEndPosition(unit, node));
            CHECK.due("rule 11: some sixty lines: " + method, to - from < MOST_LINES, true);
            super.visitMethod(node, nothing);
            method = "";
            return null;
        }

        @Override
        public Void visitMethodInvocation(MethodInvocationTree node, Void nothing) {
            called(trees.getElement(new TreePath(getCurrentPath(), node.getMethodSelect())));
            return super.visitMethodInvocation(node, nothing);
        }

        @Override
        public Void visitNewClass(NewClassTree node, Void nothing) {
            Element made = trees.getElement(getCurrentPath());
            CHECK.due("rule 3: only classes of its own are made: " + made.getEnclosingElement(),
                    isOwn(made.getEnclosingElement()), true);
            called(made);
            return super.visitNewClass(node, nothing);
        }

        private void called(Element element) {
            String name = element.getEnclosingElement() + "." + element.getSimpleName();
            if (isOwn(element.getEnclosingElement())) {
                // What a field begins with is made by the constructor, and is not deep.
                if (!method.isEmpty()) {
                    calls.get(method).add(name);
                }
            } else {
                CHECK.due("rule 4: " + name, LIBRARY.contains(name), true);
            }
        }

        @Override
        public Void visitVariable(VariableTree node, Void nothing) {
            VariableElement element = (VariableElement) elementOf(node);
            String type = element.asType().toString();
            boolean own = type.matches("RatSorters\\.[A-Za-z]+(\\[\\])?");
            CHECK.due("rule 3: " + type + " " + node.getName(), own || TYPES.contains(type), true);
            if (element.getModifiers().contains(Modifier.STATIC)) {
                boolean written = element.getConstantValue() != null
                        || node.getInitializer() instanceof NewArrayTree row && row.getInitializers() != null;
                CHECK.due("rule 5: " + node.getName() + " is final and written out",
                        element.getModifiers().contains(Modifier.FINAL) && written, true);
            }
            return super.visitVariable(node, nothing);
        }

        @Override
        public Void visitAssignment(AssignmentTree node, Void nothing) {
            boolean intoConstant = node.getVariable().toString().matches("([A-Za-z]+\\.)?[A-Z_]+\\[.*");
            CHECK.due("rule 5: a row that is constant stays so: " + node, intoConstant, false);
            return super.visitAssignment(node, nothing);
        }

        @Override
        public Void visitForLoop(ForLoopTree node, Void nothing) {
            Set<String> stepped = new TreeSet<>();
            node.getUpdate().forEach(update -> stepped.addAll(changedIn(update, false)));
            CHECK.due("rule 9: a counter against a bound in " + method,
                    node.getCondition() != null && share(stepped, namesIn(node.getCondition())), true);
            CHECK.due("rule 9: the counter is left alone in " + method,
                    share(stepped, changedIn(node.getStatement(), true)), false);
            return super.visitForLoop(node, nothing);
        }

        @Override
        public Void visitWhileLoop(WhileLoopTree node, Void nothing) {
            CHECK.due("rule 9: what is looked at is stepped in " + method,
                    share(changedIn(node.getStatement(), false), namesIn(node.getCondition())), true);
            return super.visitWhileLoop(node, nothing);
        }

        @Override
        public Void visitBinary(BinaryTree node, Void nothing) {
            if (node.getKind() == Tree.Kind.DIVIDE || node.getKind() == Tree.Kind.REMAINDER) {
                divisor(node.getRightOperand());
            }
            boolean joins = node.getKind() == Tree.Kind.PLUS;
            boolean compares = node.getKind() == Tree.Kind.EQUAL_TO || node.getKind() == Tree.Kind.NOT_EQUAL_TO;
            if (joins || compares) {
                boolean texts = isText(node.getLeftOperand()) || isText(node.getRightOperand());
                CHECK.due("rules 6, 10: texts joined by + or compared by ==: " + node, texts, false);
            }
            return super.visitBinary(node, nothing);
        }

        private boolean isText(Tree tree) {
            return trees.getTypeMirror(TreePath.getPath(unit, tree)).toString().equals("java.lang.String");
        }

        @Override
        public Void visitPrimitiveType(PrimitiveTypeTree node, Void nothing) {
            String type = node.toString();
            CHECK.due("rule 3: " + type, type.equals("void") || TYPES.contains(type), true);
            return super.visitPrimitiveType(node, nothing);
        }

        @Override
        public Void visitCompoundAssignment(CompoundAssignmentTree node, Void nothing) {
            if (node.getKind() == Tree.Kind.DIVIDE_ASSIGNMENT || node.getKind() == Tree.Kind.REMAINDER_ASSIGNMENT) {
                divisor(node.getExpression());
            }
            return super.visitCompoundAssignment(node, nothing);
        }

        /** Rule 7: a divisor is a constant, or compared with 0, or held to 1 at least, in the same method. */
        private void divisor(ExpressionTree by) {
            boolean constant = by instanceof LiteralTree
                    || elementOf(by) instanceof VariableElement known && known.getConstantValue() != null;
            String looked = "(?s).*(\\b" + by + " (>|==|!=) 0\\b|\\b" + by + " = Math\\.max\\(1, ).*";
            CHECK.due("rule 7: divided by " + by + " in " + method, constant || body.toString().matches(looked), true);
        }
    }
}
