import com.sun.source.tree.ArrayAccessTree;
import com.sun.source.tree.BinaryTree;
import com.sun.source.tree.BlockTree;
import com.sun.source.tree.ClassTree;
import com.sun.source.tree.CompilationUnitTree;
import com.sun.source.tree.CompoundAssignmentTree;
import com.sun.source.tree.ExpressionTree;
import com.sun.source.tree.ImportTree;
import com.sun.source.tree.MethodInvocationTree;
import com.sun.source.tree.MethodTree;
import com.sun.source.tree.NewArrayTree;
import com.sun.source.tree.NewClassTree;
import com.sun.source.tree.PrimitiveTypeTree;
import com.sun.source.tree.ThrowTree;
import com.sun.source.tree.Tree;
import com.sun.source.tree.TypeCastTree;
import com.sun.source.tree.VariableTree;
import com.sun.source.util.JavacTask;
import com.sun.source.util.TreePath;
import com.sun.source.util.TreePathScanner;
import com.sun.source.util.Trees;
import java.io.File;
import java.io.IOException;
import java.util.EnumSet;
import java.util.HashSet;
import java.util.List;
import java.util.Map;
import java.util.Set;
import java.util.TreeMap;
import javax.lang.model.element.Element;
import javax.lang.model.element.Modifier;
import javax.lang.model.type.TypeKind;
import javax.lang.model.type.TypeMirror;
import javax.tools.JavaCompiler;
import javax.tools.StandardJavaFileManager;
import javax.tools.ToolProvider;

/** LANGUAGE.md, as far as the compiler's tree of WardFalls.java shows it. It is run where the project stands. */
public final class RuleTest {
    private static final Checks CHECKS = new Checks();
    private static final String FILE = "src/main/java/WardFalls.java";

    private static final Set<String> IMPORTS = Set.of("java.util.Arrays", "java.util.NoSuchElementException");
    private static final Set<String> LIBRARY = Set.of("Math.max", "Math.min", "Math.abs", "Long.bitCount",
            "Arrays.fill", "System.arraycopy", "String.length", "String.charAt", "Object.<init>",
            "IndexOutOfBoundsException.<init>", "NoSuchElementException.<init>");
    /** Where an index is looked at just ahead of its use; all other methods go through look and put. */
    private static final Set<String> WITH_ROWS = Set.of("WardFalls.look", "WardFalls.put", "WardFalls.indexOf",
            "Formula.value", "Formula.valueOf", "Laws.name", "Past.<init>", "Past.remember", "Past.takeBack");
    /** Where a divisor that is no constant is looked at ahead. */
    private static final Set<String> DIVIDING = Set.of("Chronicle.goOn", "Formula.join", "Formula.product",
            "Trail.cellAt");
    private static final Set<Tree.Kind> REFUSED = EnumSet.of(Tree.Kind.LAMBDA_EXPRESSION, Tree.Kind.MEMBER_REFERENCE,
            Tree.Kind.TRY, Tree.Kind.CATCH, Tree.Kind.SYNCHRONIZED, Tree.Kind.ASSERT, Tree.Kind.INSTANCE_OF,
            Tree.Kind.SWITCH_EXPRESSION, Tree.Kind.ANNOTATION, Tree.Kind.RECORD);

    public static void main(String[] args) throws IOException {
        JavaCompiler javac = ToolProvider.getSystemJavaCompiler();
        if (javac == null) {
            System.out.println("RuleTest: this Java has no compiler inside, nothing is looked at");
            return;
        }
        try (StandardJavaFileManager files = javac.getStandardFileManager(null, null, null)) {
            JavacTask task = (JavacTask) javac.getTask(null, files, null, List.of("-proc:none"), null,
                    files.getJavaFileObjects(new File(FILE)));
            CompilationUnitTree unit = task.parse().iterator().next();
            task.analyze();
            Look look = new Look(unit, Trees.instance(task));
            look.scan(unit, null);
            look.end();
        }
        CHECKS.end("RuleTest");
    }

    /** Goes through the whole tree once. */
    private static final class Look extends TreePathScanner<Void, Void> {
        private final CompilationUnitTree unit;
        private final Trees trees;
        /** By a method's name with its class's: all that it calls. */
        private final Map<String, Set<String>> calls = new TreeMap<>();
        private final Set<String> faceNames = new HashSet<>();
        private int classes;
        private String inside = "";

        Look(CompilationUnitTree unit, Trees trees) {
            this.unit = unit;
            this.trees = trees;
        }

        void end() {
            CHECKS.due("rule 1: the package", unit.getPackageName() == null, true);
            CHECKS.due("rule 11: at most twelve classes, not " + classes, classes <= 12, true);
            for (String method : calls.keySet()) {
                int deep = deep(method, new HashSet<>());
                CHECKS.due("rule 11: " + method + " goes " + deep + " deep (99: to itself)", deep <= 8, true);
                boolean isFree = method.startsWith("WardFalls.") || method.endsWith(".<init>");
                String name = method.substring(method.indexOf('.') + 1);
                CHECKS.due("rule 1: " + method + " bears a public name", !isFree && faceNames.contains(name), false);
            }
        }

        private int deep(String method, Set<String> open) {
            if (!calls.containsKey(method)) {
                return 1;
            }
            if (!open.add(method)) {
                return 99;
            }
            int deepest = 0;
            for (String called : calls.get(method)) {
                deepest = Math.max(deepest, deep(called, open));
            }
            open.remove(method);
            return Math.min(99, deepest + 1);
        }

        @Override
        public Void scan(Tree tree, Void nothing) {
            if (tree != null) {
                due("rules 2, 6, 10: a " + tree.getKind(), tree, !REFUSED.contains(tree.getKind()));
            }
            return super.scan(tree, nothing);
        }

        @Override
        public Void visitImport(ImportTree tree, Void nothing) {
            String name = tree.getQualifiedIdentifier().toString();
            due("rule 4: import " + name, tree, !tree.isStatic() && IMPORTS.contains(name));
            return super.visitImport(tree, nothing);
        }

        @Override
        public Void visitClass(ClassTree tree, Void nothing) {
            classes++;
            Tree around = getCurrentPath().getParentPath().getLeaf();
            boolean isInside = around instanceof ClassTree && tree.getModifiers().getFlags().contains(Modifier.STATIC);
            due("rule 2: a class inside", tree, around == unit || isInside);
            int fields = 0;
            for (Tree member : tree.getMembers()) {
                if (member instanceof VariableTree) {
                    fields += isStatic((VariableTree) member) ? 0 : 1;
                }
                due("rule 5: a block of a class", member, !(member instanceof BlockTree));
            }
            due("rule 11: at most some twenty fields, not " + fields, tree, fields <= 20);
            String outside = inside;
            inside = tree.getSimpleName().toString();
            super.visitClass(tree, nothing);
            inside = outside;
            return null;
        }

        @Override
        public Void visitVariable(VariableTree tree, Void nothing) {
            boolean isLoose = isStatic(tree) && !tree.getModifiers().getFlags().contains(Modifier.FINAL);
            due("rule 5: a static field", tree, !isLoose);
            return super.visitVariable(tree, nothing);
        }

        @Override
        public Void visitMethod(MethodTree tree, Void nothing) {
            long from = unit.getLineMap().getLineNumber(trees.getSourcePositions().getStartPosition(unit, tree));
            long to = unit.getLineMap().getLineNumber(trees.getSourcePositions().getEndPosition(unit, tree));
            due("rule 11: some sixty lines of " + tree.getName(), tree, to - from < 60);
            due("rule 11: seven parameters of " + tree.getName(), tree, tree.getParameters().size() <= 7);
            String name = inside + "." + tree.getName();
            due("a second " + name + " (RuleTest counts by names)", tree, calls.put(name, new HashSet<>()) == null);
            if (tree.getModifiers().getFlags().contains(Modifier.PUBLIC)) {
                faceNames.add(tree.getName().toString());
            }
            return super.visitMethod(tree, nothing);
        }

        @Override
        public Void visitMethodInvocation(MethodInvocationTree tree, Void nothing) {
            called(tree, trees.getElement(new TreePath(getCurrentPath(), tree.getMethodSelect())));
            return super.visitMethodInvocation(tree, nothing);
        }

        @Override
        public Void visitNewClass(NewClassTree tree, Void nothing) {
            called(tree, trees.getElement(getCurrentPath()));
            boolean isThrown = getCurrentPath().getParentPath().getLeaf() instanceof ThrowTree;
            due("rule 12: an object made in a call", tree, isThrown || isMadeAtFirst());
            due("rule 2: a class in a method", tree, tree.getClassBody() == null);
            return super.visitNewClass(tree, nothing);
        }

        @Override
        public Void visitNewArray(NewArrayTree tree, Void nothing) {
            due("rule 12: a row made in a call", tree, isMadeAtFirst());
            due("rule 7: a length that is no constant", tree, tree.getDimensions().stream().allMatch(Look::isConstant));
            return super.visitNewArray(tree, nothing);
        }

        @Override
        public Void visitThrow(ThrowTree tree, Void nothing) {
            due("rule 6: a throw", tree, method().equals("WardFalls.cell"));
            return super.visitThrow(tree, nothing);
        }

        @Override
        public Void visitPrimitiveType(PrimitiveTypeTree tree, Void nothing) {
            TypeKind kind = tree.getPrimitiveTypeKind();
            due("rule 3: " + kind, tree, kind != TypeKind.DOUBLE && kind != TypeKind.FLOAT);
            return super.visitPrimitiveType(tree, nothing);
        }

        @Override
        public Void visitTypeCast(TypeCastTree tree, Void nothing) {
            due("rule 7: a cast", tree, tree.getType() instanceof PrimitiveTypeTree);
            return super.visitTypeCast(tree, nothing);
        }

        @Override
        public Void visitArrayAccess(ArrayAccessTree tree, Void nothing) {
            due("rule 7: an index in " + method(), tree, WITH_ROWS.contains(method()));
            return super.visitArrayAccess(tree, nothing);
        }

        @Override
        public Void visitBinary(BinaryTree tree, Void nothing) {
            TypeMirror type = trees.getTypeMirror(getCurrentPath());
            due("rule 10: texts joined", tree, type.getKind().isPrimitive());
            divided(tree, tree.getRightOperand());
            return super.visitBinary(tree, nothing);
        }

        @Override
        public Void visitCompoundAssignment(CompoundAssignmentTree tree, Void nothing) {
            divided(tree, tree.getExpression());
            return super.visitCompoundAssignment(tree, nothing);
        }

        private void divided(Tree tree, ExpressionTree by) {
            boolean divides = EnumSet.of(Tree.Kind.DIVIDE, Tree.Kind.REMAINDER, Tree.Kind.DIVIDE_ASSIGNMENT,
                    Tree.Kind.REMAINDER_ASSIGNMENT).contains(tree.getKind());
            due("rule 7: a divisor in " + method(), tree, !divides || isConstant(by) || DIVIDING.contains(method()));
        }

        private void called(Tree tree, Element called) {
            String of = called.getEnclosingElement().getSimpleName().toString();
            String name = of + "." + called.getSimpleName();
            boolean isOwn = called.getEnclosingElement().toString().startsWith("WardFalls");
            due("rule 4: " + name, tree, isOwn || LIBRARY.contains(name));
            if (calls.containsKey(method())) {
                calls.get(method()).add(name);
            }
        }

        /** By a constructor or with a field. */
        private boolean isMadeAtFirst() {
            return method().endsWith(".<init>") || method().isEmpty();
        }

        /** The method that stands around; nothing around a field. */
        private String method() {
            for (Tree tree : getCurrentPath()) {
                if (tree instanceof MethodTree) {
                    return inside + "." + ((MethodTree) tree).getName();
                }
            }
            return "";
        }

        private static boolean isStatic(VariableTree tree) {
            return tree.getModifiers().getFlags().contains(Modifier.STATIC);
        }

        private static boolean isConstant(Tree tree) {
            return tree.toString().matches("[A-Z0-9_ +*()]+") && !tree.toString().equals("0");
        }

        private void due(String rule, Tree tree, boolean holds) {
            long at = trees.getSourcePositions().getStartPosition(unit, tree);
            CHECKS.due(rule + ", line " + (at < 0 ? 0 : unit.getLineMap().getLineNumber(at)), holds, true);
        }
    }
}
