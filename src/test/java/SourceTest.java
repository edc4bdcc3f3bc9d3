import com.sun.source.tree.*;
import com.sun.source.util.JavacTask;
import com.sun.source.util.TreePathScanner;
import com.sun.source.util.Trees;
import java.nio.file.Files;
import java.nio.file.Path;
import java.util.ArrayList;
import java.util.HashSet;
import java.util.LinkedHashMap;
import java.util.List;
import java.util.Map;
import java.util.Set;
import javax.lang.model.element.Element;
import javax.lang.model.element.ElementKind;
import javax.lang.model.element.ExecutableElement;
import javax.lang.model.element.Modifier;
import javax.lang.model.type.ArrayType;
import javax.lang.model.type.TypeKind;
import javax.lang.model.type.TypeMirror;
import javax.tools.JavaCompiler;
import javax.tools.StandardJavaFileManager;
import javax.tools.ToolProvider;

/**
 * LANGUAGE.md, rule by rule, on the program's source as javac reads it: its parts, what they mean, who calls whom.
 * It allows what the program uses; more of what LANGUAGE.md allows may be added where it is needed.
 */
final class SourceTest {
    private static final int LONGEST_METHOD = 60, DEEPEST = 8, MOST_CLASSES = 12, MOST_FIELDS = 20, MOST_PARAMETERS = 7;
    /** Of the library that rule 4 lists, what the program calls. */
    private static final Set<String> LIBRARY =
        Set.of("System.arraycopy", "Arrays.fill", "Math.min", "Math.max", "Math.abs");
    /** Rules 2 and 6 and 10: parts that do not come at all. */
    private static final Set<Tree.Kind> RULED_OUT = Set.of(Tree.Kind.THROW, Tree.Kind.TRY, Tree.Kind.CATCH,
        Tree.Kind.SYNCHRONIZED, Tree.Kind.ASSERT, Tree.Kind.LAMBDA_EXPRESSION, Tree.Kind.MEMBER_REFERENCE,
        Tree.Kind.SWITCH_EXPRESSION, Tree.Kind.YIELD, Tree.Kind.BINDING_PATTERN, Tree.Kind.INSTANCE_OF,
        Tree.Kind.ANNOTATION, Tree.Kind.RECORD, Tree.Kind.ENUM, Tree.Kind.STRING_LITERAL, Tree.Kind.PACKAGE);

    private final Checks c;

    SourceTest(Checks checks) {
        c = checks;
    }

    void runAll(String source) throws Exception {
        long signs = Files.readString(Path.of(source)).chars().filter(sign -> sign > 126).count();
        so("rule 4: signs of the source", signs == 0);
        JavaCompiler javac = ToolProvider.getSystemJavaCompiler();
        try (StandardJavaFileManager files = javac.getStandardFileManager(null, null, null)) {
            JavacTask task = (JavacTask) javac.getTask(null, files, null, List.of("-proc:none"), null,
                files.getJavaFileObjects(Path.of(source)));
            CompilationUnitTree unit = task.parse().iterator().next();
            task.analyze();
            Reader reader = new Reader(Trees.instance(task), unit);
            reader.scan(unit, null);
            reader.callsGoNoDeeper();
        }
    }

    private void so(String rule, boolean holds) {
        c.same(0, rule, holds ? 1 : 0, 1);
    }

    /** Goes through the source once, and keeps who calls whom. */
    private final class Reader extends TreePathScanner<Void, Void> {
        private final Trees trees;
        private final CompilationUnitTree unit;
        private final Map<Element, Set<Element>> calls = new LinkedHashMap<>();
        private int classes = 0;

        Reader(Trees trees, CompilationUnitTree unit) {
            this.trees = trees;
            this.unit = unit;
        }

        private long line(Tree tree) {
            return unit.getLineMap().getLineNumber(trees.getSourcePositions().getStartPosition(unit, tree));
        }

        private void so(int rule, Tree at, boolean holds) {
            String part = at.toString().trim().split("\n")[0];
            SourceTest.this.so("rule " + rule + ": line " + line(at) + ", " + part, holds);
        }

        private Element meant(Tree tree) {
            return trees.getElement(trees.getPath(unit, tree));
        }

        private TypeMirror typeOf(Tree tree) {
            return trees.getTypeMirror(trees.getPath(unit, tree));
        }

        private boolean isOfFile(Element element) {
            Element owner = element;
            while (owner.getKind() != ElementKind.PACKAGE && !owner.toString().equals("TwoElbows")) {
                owner = owner.getEnclosingElement();
            }
            return owner.getKind() != ElementKind.PACKAGE;
        }

        private Element methodAround() {
            for (Tree up : getCurrentPath()) {
                if (up instanceof MethodTree) return meant(up);
            }
            return null;
        }

        @Override
        public Void scan(Tree tree, Void nothing) {
            if (tree != null) so(6, tree, !RULED_OUT.contains(tree.getKind()));
            return super.scan(tree, nothing);
        }

        @Override
        public Void visitImport(ImportTree tree, Void nothing) {
            so(4, tree, tree.toString().trim().equals("import java.util.Arrays;"));
            return null;
        }

        @Override
        public Void visitClass(ClassTree tree, Void nothing) {
            boolean isTop = getCurrentPath().getParentPath().getLeaf() == unit;
            boolean isInTop = getCurrentPath().getParentPath().getLeaf() == unit.getTypeDecls().get(0);
            Set<Modifier> modifiers = tree.getModifiers().getFlags();
            if (isTop) so(1, tree, modifiers.equals(Set.of(Modifier.PUBLIC, Modifier.FINAL)));
            else so(2, tree, isInTop && modifiers.containsAll(Set.of(Modifier.PRIVATE, Modifier.STATIC)));
            classes++;
            so(11, tree, classes <= MOST_CLASSES);
            int fields = 0;
            for (Tree member : tree.getMembers()) {
                so(5, tree, !(member instanceof BlockTree));
                if (member instanceof VariableTree && !isStatic((VariableTree) member)) fields++;
            }
            so(11, tree, fields <= MOST_FIELDS);
            return super.visitClass(tree, nothing);
        }

        private boolean isStatic(VariableTree tree) {
            return tree.getModifiers().getFlags().contains(Modifier.STATIC);
        }

        @Override
        public Void visitVariable(VariableTree tree, Void nothing) {
            TypeMirror type = typeOf(tree);
            so(3, tree, isAllowed(type));
            if (isStatic(tree)) {
                boolean isWrittenOut = type.getKind() != TypeKind.ARRAY || tree.getInitializer() instanceof NewArrayTree
                    && ((NewArrayTree) tree.getInitializer()).getInitializers() != null;
                so(5, tree, tree.getModifiers().getFlags().contains(Modifier.FINAL));
                so(5, tree, isWrittenOut && type.getKind() != TypeKind.DECLARED);
            }
            return super.visitVariable(tree, nothing);
        }

        /** Numbers, booleans, classes of the file, and rows of these. */
        private boolean isAllowed(TypeMirror type) {
            if (type.getKind() == TypeKind.ARRAY) {
                TypeMirror element = ((ArrayType) type).getComponentType();
                return element.getKind() != TypeKind.ARRAY && isAllowed(element);
            }
            if (type.getKind() == TypeKind.DECLARED) return type.toString().startsWith("TwoElbows");
            return Set.of(TypeKind.INT, TypeKind.LONG, TypeKind.BOOLEAN).contains(type.getKind());
        }

        @Override
        public Void visitMethod(MethodTree tree, Void nothing) {
            long last = unit.getLineMap().getLineNumber(trees.getSourcePositions().getEndPosition(unit, tree));
            so(11, tree, last - line(tree) + 1 <= LONGEST_METHOD);
            so(11, tree, tree.getParameters().size() <= MOST_PARAMETERS);
            so(6, tree, tree.getThrows().isEmpty());
            calls.computeIfAbsent(meant(tree), own -> new HashSet<>());
            return super.visitMethod(tree, nothing);
        }

        @Override
        public Void visitMethodInvocation(MethodInvocationTree tree, Void nothing) {
            Element called = meant(tree);
            Element around = methodAround();
            boolean isSuper = called.getKind() == ElementKind.CONSTRUCTOR;
            so(12, tree, around != null);
            if (around == null || isSuper) return super.visitMethodInvocation(tree, nothing);
            if (isOfFile(called)) {
                calls.computeIfAbsent(around, own -> new HashSet<>()).add(called);
                so(12, tree, around.getKind() != ElementKind.CONSTRUCTOR);
            } else {
                String name = called.getEnclosingElement().getSimpleName() + "." + called.getSimpleName();
                so(4, tree, LIBRARY.contains(name));
            }
            return super.visitMethodInvocation(tree, nothing);
        }

        @Override
        public Void visitNewClass(NewClassTree tree, Void nothing) {
            so(2, tree, tree.getClassBody() == null);
            so(4, tree, isOfFile(meant(tree)));
            madeInConstructors(tree);
            return super.visitNewClass(tree, nothing);
        }

        @Override
        public Void visitNewArray(NewArrayTree tree, Void nothing) {
            madeInConstructors(tree);
            return super.visitNewArray(tree, nothing);
        }

        /** The room counts what is made: here all is made with the object. */
        private void madeInConstructors(Tree tree) {
            Element around = methodAround();
            so(12, tree, around == null || around.getKind() == ElementKind.CONSTRUCTOR);
        }

        @Override
        public Void visitTypeCast(TypeCastTree tree, Void nothing) {
            so(6, tree, typeOf(tree).getKind().isPrimitive());
            return super.visitTypeCast(tree, nothing);
        }

        @Override
        public Void visitBinary(BinaryTree tree, Void nothing) {
            boolean areNumbers = typeOf(tree.getLeftOperand()).getKind().isPrimitive()
                && typeOf(tree.getRightOperand()).getKind().isPrimitive();
            so(6, tree, areNumbers);
            boolean divides = tree.getKind() == Tree.Kind.DIVIDE || tree.getKind() == Tree.Kind.REMAINDER;
            if (divides) so(7, tree, isNotByZero(tree));
            return super.visitBinary(tree, nothing);
        }

        /** A divisor is a number written out, or has been asked just ahead of it. */
        private boolean isNotByZero(BinaryTree tree) {
            Tree divisor = tree.getRightOperand();
            if (divisor instanceof LiteralTree) return !divisor.toString().equals("0");
            Tree up = getCurrentPath().getParentPath().getLeaf();
            if (!(up instanceof ConditionalExpressionTree)) return false;
            return ((ConditionalExpressionTree) up).getCondition().toString().equals(divisor + " == 0")
                && ((ConditionalExpressionTree) up).getFalseExpression() == tree;
        }

        @Override
        public Void visitCompoundAssignment(CompoundAssignmentTree tree, Void nothing) {
            so(7, tree, !Set.of(Tree.Kind.DIVIDE_ASSIGNMENT, Tree.Kind.REMAINDER_ASSIGNMENT).contains(tree.getKind()));
            return super.visitCompoundAssignment(tree, nothing);
        }

        @Override
        public Void visitAssignment(AssignmentTree tree, Void nothing) {
            if (tree.getVariable() instanceof ArrayAccessTree) {
                Element row = meant(((ArrayAccessTree) tree.getVariable()).getExpression());
                so(5, tree, !row.getModifiers().contains(Modifier.STATIC));
            }
            return super.visitAssignment(tree, nothing);
        }

        @Override
        public Void visitForLoop(ForLoopTree tree, Void nothing) {
            so(9, tree, tree.getCondition() != null && tree.getUpdate().size() == 1);
            return super.visitForLoop(tree, nothing);
        }

        @Override
        public Void visitWhileLoop(WhileLoopTree tree, Void nothing) {
            so(9, tree, tree.getCondition().toString().contains("<"));
            return super.visitWhileLoop(tree, nothing);
        }

        /** Rules 8 and 11: who calls itself is private; all go at most so deep, a round of calls counted once. */
        void callsGoNoDeeper() {
            Map<Element, Set<Element>> reached = new LinkedHashMap<>();
            for (Element method : calls.keySet()) reached.put(method, reachedFrom(method));
            Map<Element, Integer> depths = new LinkedHashMap<>();
            for (Element method : calls.keySet()) {
                boolean isRecursion = reached.get(method).contains(method);
                SourceTest.this.so("rule 8: " + method, !isRecursion || isPrivateWithDepth((ExecutableElement) method));
                SourceTest.this.so("rule 11: depth of " + method, depthOf(method, reached, depths) <= DEEPEST);
            }
        }

        private boolean isPrivateWithDepth(ExecutableElement method) {
            String last = method.getParameters().get(method.getParameters().size() - 1).toString();
            return method.getModifiers().contains(Modifier.PRIVATE) && (last.equals("depth") || last.equals("open"));
        }

        private Set<Element> reachedFrom(Element method) {
            Set<Element> reached = new HashSet<>();
            List<Element> open = new ArrayList<>(List.of(method));
            while (!open.isEmpty()) {
                for (Element next : calls.getOrDefault(open.remove(0), Set.of())) {
                    if (reached.add(next)) open.add(next);
                }
            }
            return reached;
        }

        private int depthOf(Element method, Map<Element, Set<Element>> reached, Map<Element, Integer> depths) {
            if (depths.containsKey(method)) return depths.get(method);
            int deepest = 0;
            for (Element next : reached.get(method)) {
                boolean isOfRound = reached.getOrDefault(next, Set.of()).contains(method);
                if (!isOfRound) deepest = Math.max(deepest, depthOf(next, reached, depths));
            }
            depths.put(method, deepest + 1);
            return deepest + 1;
        }
    }
}
