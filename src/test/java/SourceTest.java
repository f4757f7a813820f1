import com.sun.source.tree.AssertTree;
import com.sun.source.tree.BinaryTree;
import com.sun.source.tree.BlockTree;
import com.sun.source.tree.CatchTree;
import com.sun.source.tree.ClassTree;
import com.sun.source.tree.CompilationUnitTree;
import com.sun.source.tree.ConditionalExpressionTree;
import com.sun.source.tree.DoWhileLoopTree;
import com.sun.source.tree.ExpressionTree;
import com.sun.source.tree.ForLoopTree;
import com.sun.source.tree.IdentifierTree;
import com.sun.source.tree.IfTree;
import com.sun.source.tree.LambdaExpressionTree;
import com.sun.source.tree.LiteralTree;
import com.sun.source.tree.MemberReferenceTree;
import com.sun.source.tree.MemberSelectTree;
import com.sun.source.tree.MethodInvocationTree;
import com.sun.source.tree.MethodTree;
import com.sun.source.tree.NewArrayTree;
import com.sun.source.tree.NewClassTree;
import com.sun.source.tree.SynchronizedTree;
import com.sun.source.tree.ThrowTree;
import com.sun.source.tree.Tree;
import com.sun.source.tree.TryTree;
import com.sun.source.tree.TypeCastTree;
import com.sun.source.tree.VariableTree;
import com.sun.source.tree.WhileLoopTree;
import com.sun.source.util.JavacTask;
import com.sun.source.util.TreePath;
import com.sun.source.util.TreePathScanner;
import com.sun.source.util.TreeScanner;
import com.sun.source.util.Trees;
import java.io.File;
import java.io.IOException;
import java.util.ArrayList;
import java.util.HashSet;
import java.util.LinkedHashMap;
import java.util.LinkedHashSet;
import java.util.List;
import java.util.Map;
import java.util.Set;
import javax.lang.model.element.Element;
import javax.lang.model.element.ElementKind;
import javax.lang.model.element.ExecutableElement;
import javax.lang.model.element.Modifier;
import javax.lang.model.element.TypeElement;
import javax.lang.model.element.VariableElement;
import javax.lang.model.type.ArrayType;
import javax.lang.model.type.DeclaredType;
import javax.lang.model.type.TypeKind;
import javax.lang.model.type.TypeMirror;
import javax.tools.JavaCompiler;
import javax.tools.StandardJavaFileManager;
import javax.tools.ToolProvider;

/** Those rules of LANGUAGE.md that can be seen from how the class is written, each by its number. */
public final class SourceTest {
    private static final String FILE = "src/main/java/LastRower.java";
    private static final int DEEPEST = 8, MOST_LINES = 60, MOST_PARAMETERS = 7, MOST_CLASSES = 12, MOST_FIELDS = 20;
    /** Rule 4, as far as the class could ever need it. */
    private static final Set<String> LIBRARY = Set.of(
        "java.lang.Math.max", "java.lang.Math.min", "java.lang.Math.abs", "java.lang.Math.floorDiv",
        "java.lang.Math.floorMod", "java.lang.Integer.bitCount", "java.lang.Integer.compare",
        "java.lang.Long.compare", "java.lang.System.arraycopy", "java.util.Arrays.fill", "java.util.Arrays.copyOf",
        "java.util.Arrays.copyOfRange", "java.lang.Object.<init>");
    private static int wrong = 0;

    private static void must(boolean so, int rule, String what) {
        if (!so) {
            wrong++;
            System.out.println("rule " + rule + " is broken: " + what);
        }
    }

    public static void main(String[] args) throws IOException {
        JavaCompiler compiler = ToolProvider.getSystemJavaCompiler();
        try (StandardJavaFileManager files = compiler.getStandardFileManager(null, null, null)) {
            JavacTask task = (JavacTask) compiler.getTask(null, files, null, List.of("-proc:none"), null,
                files.getJavaFileObjects(new File(FILE)));
            Reading reading = new Reading(task);
            for (CompilationUnitTree unit : task.parse()) {
                task.analyze();
                must(unit.getPackageName() == null, 1, "no package line");
                must(unit.getTypeDecls().size() == 1, 1, "one public class");
                reading.scan(unit, null);
            }
            reading.weigh();
        }
        System.out.println(wrong == 0 ? "the rules of the language are kept" : wrong + " rules are broken");
        if (wrong != 0) {
            System.exit(1);
        }
    }

    private static final class Reading extends TreePathScanner<Void, Void> {
        private final JavacTask task;
        private final Trees trees;
        private final List<ExecutableElement> methods = new ArrayList<>();
        /** Who calls whom; what is outside the class by its name alone. */
        private final Map<Object, Set<Object>> calls = new LinkedHashMap<>();
        /** Callers by the method that they name, since a class under its own may answer in its place. */
        private final Map<ExecutableElement, Set<Object>> named = new LinkedHashMap<>();
        private final Map<TypeElement, Integer> fields = new LinkedHashMap<>();
        private final Set<String> publicNames = new HashSet<>();

        Reading(JavacTask task) {
            this.task = task;
            this.trees = Trees.instance(task);
        }

        private String place(Tree tree) {
            CompilationUnitTree unit = getCurrentPath().getCompilationUnit();
            long start = trees.getSourcePositions().getStartPosition(unit, tree);
            String text = tree.toString().strip().lines().findFirst().orElse("");
            return "line " + unit.getLineMap().getLineNumber(start) + ": " + text;
        }

        private <T extends Tree> T around(Class<T> kind) {
            for (TreePath path = getCurrentPath(); path != null; path = path.getParentPath()) {
                if (kind.isInstance(path.getLeaf())) {
                    return kind.cast(path.getLeaf());
                }
            }
            return null;
        }

        private Object caller() {
            for (TreePath path = getCurrentPath(); path != null; path = path.getParentPath()) {
                if (path.getLeaf() instanceof MethodTree) {
                    return trees.getElement(path);
                }
                if (path.getLeaf() instanceof ClassTree) {
                    return constructorOf((TypeElement) trees.getElement(path));
                }
            }
            return null;
        }

        /** What a field's initialiser calls, the constructor calls. */
        private static Element constructorOf(TypeElement type) {
            for (Element member : type.getEnclosedElements()) {
                if (member.getKind() == ElementKind.CONSTRUCTOR) {
                    return member;
                }
            }
            return type;
        }

        private static boolean isOwn(Element element) {
            for (Element e = element; e != null; e = e.getEnclosingElement()) {
                if (e.getSimpleName().contentEquals("LastRower")) {
                    return true;
                }
            }
            return false;
        }

        // ---- classes, methods, fields

        @Override
        public Void visitClass(ClassTree tree, Void v) {
            TypeElement type = (TypeElement) trees.getElement(getCurrentPath());
            fields.put(type, 0);
            Tree outside = getCurrentPath().getParentPath().getLeaf();
            must(outside instanceof CompilationUnitTree || outside instanceof ClassTree, 2, "no local class: " + place(tree));
            if (outside instanceof ClassTree) {
                must(type.getModifiers().contains(Modifier.STATIC), 2, "static: " + place(tree));
                must(!type.getModifiers().contains(Modifier.PUBLIC), 1, "not public: " + place(tree));
                must(!type.getModifiers().contains(Modifier.PROTECTED), 1, "not protected: " + place(tree));
            }
            for (Tree member : tree.getMembers()) {
                must(!(member instanceof BlockTree), 5, "no block of initialisers: " + place(member));
            }
            return super.visitClass(tree, v);
        }

        @Override
        public Void visitMethod(MethodTree tree, Void v) {
            ExecutableElement method = (ExecutableElement) trees.getElement(getCurrentPath());
            methods.add(method);
            calls.computeIfAbsent(method, m -> new LinkedHashSet<>());
            if (method.getModifiers().contains(Modifier.PUBLIC)) {
                publicNames.add(method.getSimpleName().toString());
            }
            CompilationUnitTree unit = getCurrentPath().getCompilationUnit();
            long from = trees.getSourcePositions().getStartPosition(unit, tree);
            long to = trees.getSourcePositions().getEndPosition(unit, tree);
            if (to > from) {
                long lines = unit.getLineMap().getLineNumber(to) - unit.getLineMap().getLineNumber(from) + 1;
                must(lines <= MOST_LINES, 11, lines + " lines: " + place(tree));
            }
            must(tree.getParameters().size() <= MOST_PARAMETERS, 11, "too many parameters: " + place(tree));
            must(tree.getThrows().isEmpty(), 6, "no throws: " + place(tree));
            return super.visitMethod(tree, v);
        }

        @Override
        public Void visitVariable(VariableTree tree, Void v) {
            Element element = trees.getElement(getCurrentPath());
            must(isAllowed(element.asType()), 3, "type of " + place(tree));
            if (element.getKind() == ElementKind.FIELD) {
                if (element.getModifiers().contains(Modifier.STATIC)) {
                    constant(tree, (VariableElement) element);
                } else {
                    fields.merge((TypeElement) element.getEnclosingElement(), 1, Integer::sum);
                }
            }
            return super.visitVariable(tree, v);
        }

        private void constant(VariableTree tree, VariableElement field) {
            must(field.getModifiers().contains(Modifier.FINAL), 5, "final: " + place(tree));
            boolean row = field.asType() instanceof ArrayType a && a.getComponentType().getKind().isPrimitive()
                && tree.getInitializer() instanceof NewArrayTree made && made.getInitializers() != null;
            must(row || field.getConstantValue() != null, 5, "a constant: " + place(tree));
        }

        private static boolean isAllowed(TypeMirror type) {
            if (type.getKind().isPrimitive()) {
                return true;
            }
            if (type instanceof ArrayType row) {
                TypeMirror part = row.getComponentType();
                boolean ownClass = part instanceof DeclaredType d && isOwn(d.asElement());
                boolean numbers = part instanceof ArrayType inner && inner.getComponentType().getKind().isPrimitive();
                return part.getKind().isPrimitive() || ownClass || numbers;
            }
            if (type instanceof DeclaredType declared) {
                String name = declared.asElement().toString();
                return isOwn(declared.asElement()) || Set.of("java.lang.String", "java.lang.StringBuilder",
                    "java.lang.Integer", "java.util.List", "java.util.ArrayList").contains(name);
            }
            return type.getKind() == TypeKind.TYPEVAR;
        }

        // ---- calls

        @Override
        public Void visitMethodInvocation(MethodInvocationTree tree, Void v) {
            ExecutableElement called = (ExecutableElement) trees.getElement(getCurrentPath());
            boolean up = tree.getMethodSelect() instanceof MemberSelectTree select
                && select.getExpression() instanceof IdentifierTree name && name.getName().contentEquals("super");
            called(tree, called, up);
            return super.visitMethodInvocation(tree, v);
        }

        @Override
        public Void visitNewClass(NewClassTree tree, Void v) {
            must(tree.getClassBody() == null, 2, "no anonymous class: " + place(tree));
            ExecutableElement called = (ExecutableElement) trees.getElement(getCurrentPath());
            called(tree, called, true);
            made(tree);
            return super.visitNewClass(tree, v);
        }

        @Override
        public Void visitNewArray(NewArrayTree tree, Void v) {
            made(tree);
            for (ExpressionTree length : tree.getDimensions()) {
                must(constantOf(length) != null || isConstant(length), 7, "a length that is told: " + place(tree));
            }
            return super.visitNewArray(tree, v);
        }

        /** All calls live in one room: what is made is made by constructors and with fields, and used again. */
        private void made(Tree tree) {
            MethodTree method = around(MethodTree.class);
            must(method == null || method.getReturnType() == null, 12, "made by a call: " + place(tree));
        }

        private void called(Tree tree, ExecutableElement called, boolean thatOneAlone) {
            Set<Object> all = calls.computeIfAbsent(caller(), m -> new LinkedHashSet<>());
            if (isOwn(called)) {
                all.add(called);
                if (!thatOneAlone) {
                    named.computeIfAbsent(called, m -> new LinkedHashSet<>()).add(caller());
                }
                return;
            }
            String name = called.getEnclosingElement() + "." + called.getSimpleName();
            must(LIBRARY.contains(name), 4, name + " is not of the library: " + place(tree));
            if (!name.endsWith("<init>")) {
                all.add(name);
            }
        }

        private void addOverriders() {
            for (Map.Entry<ExecutableElement, Set<Object>> e : named.entrySet()) {
                for (ExecutableElement m : methods) {
                    boolean instead = task.getElements().overrides(m, e.getKey(), (TypeElement) m.getEnclosingElement());
                    if (instead) {
                        e.getValue().forEach(caller -> calls.get(caller).add(m));
                    }
                }
            }
        }

        // ---- statements

        @Override
        public Void visitBinary(BinaryTree tree, Void v) {
            if (tree.getKind() == Tree.Kind.DIVIDE || tree.getKind() == Tree.Kind.REMAINDER) {
                must(isSafeDivisor(tree.getRightOperand()), 7, "a divisor that is looked at: " + place(tree));
            }
            if (tree.getKind() == Tree.Kind.PLUS) {
                TypeMirror type = trees.getTypeMirror(getCurrentPath());
                must(type.getKind().isPrimitive(), 10, "no texts joined by +: " + place(tree));
            }
            return super.visitBinary(tree, v);
        }

        private boolean isSafeDivisor(ExpressionTree divisor) {
            Object value = constantOf(divisor);
            if (value != null) {
                return !value.equals(0);
            }
            String text = divisor.toString();
            if (text.matches("Math\\.max\\(\\w+, 1\\)")) {
                return true;
            }
            for (TreePath path = getCurrentPath(); path != null; path = path.getParentPath()) {
                Tree tree = path.getLeaf();
                String condition = tree instanceof ForLoopTree f ? String.valueOf(f.getCondition())
                    : tree instanceof WhileLoopTree w ? w.getCondition().toString()
                    : tree instanceof IfTree i ? i.getCondition().toString()
                    : tree instanceof ConditionalExpressionTree c ? c.getCondition().toString() : "";
                if (condition.contains(text + " != 0") || condition.contains(text + " > 0")) {
                    return true;
                }
            }
            return false;
        }

        private Object constantOf(ExpressionTree tree) {
            if (tree instanceof LiteralTree literal) {
                return literal.getValue();
            }
            Element element = trees.getElement(new TreePath(getCurrentPath(), tree));
            return element instanceof VariableElement field ? field.getConstantValue() : null;
        }

        /** Sums and shifts of what is told. */
        private boolean isConstant(ExpressionTree tree) {
            if (tree instanceof BinaryTree both) {
                return isConstant(both.getLeftOperand()) && isConstant(both.getRightOperand());
            }
            return constantOf(tree) != null;
        }

        /** Rule 9: a counter against a bound; a text's place is such a counter. */
        private void bounded(Tree loop, ExpressionTree condition) {
            boolean[] bound = new boolean[1];
            new TreeScanner<Void, Void>() {
                @Override
                public Void visitBinary(BinaryTree tree, Void v) {
                    bound[0] |= Set.of(Tree.Kind.LESS_THAN, Tree.Kind.LESS_THAN_EQUAL, Tree.Kind.GREATER_THAN,
                        Tree.Kind.GREATER_THAN_EQUAL).contains(tree.getKind());
                    return tree.getKind() == Tree.Kind.CONDITIONAL_OR ? null : super.visitBinary(tree, v);
                }
            }.scan(condition, null);
            must(bound[0], 9, "a bound: " + place(loop));
        }

        @Override
        public Void visitForLoop(ForLoopTree tree, Void v) {
            bounded(tree, tree.getCondition());
            must(tree.getUpdate().size() == 1, 9, "a counter: " + place(tree));
            return super.visitForLoop(tree, v);
        }

        @Override
        public Void visitWhileLoop(WhileLoopTree tree, Void v) {
            bounded(tree, tree.getCondition());
            return super.visitWhileLoop(tree, v);
        }

        @Override
        public Void visitDoWhileLoop(DoWhileLoopTree tree, Void v) {
            bounded(tree, tree.getCondition());
            return super.visitDoWhileLoop(tree, v);
        }

        @Override
        public Void visitLambdaExpression(LambdaExpressionTree tree, Void v) {
            must(false, 2, "no lambda: " + place(tree));
            return super.visitLambdaExpression(tree, v);
        }

        @Override
        public Void visitMemberReference(MemberReferenceTree tree, Void v) {
            must(false, 2, "no method reference: " + place(tree));
            return super.visitMemberReference(tree, v);
        }

        @Override
        public Void visitThrow(ThrowTree tree, Void v) {
            must(false, 6, "no throw: " + place(tree));
            return super.visitThrow(tree, v);
        }

        @Override
        public Void visitTry(TryTree tree, Void v) {
            must(false, 6, "no try: " + place(tree));
            return super.visitTry(tree, v);
        }

        @Override
        public Void visitCatch(CatchTree tree, Void v) {
            must(false, 6, "no catch: " + place(tree));
            return super.visitCatch(tree, v);
        }

        @Override
        public Void visitSynchronized(SynchronizedTree tree, Void v) {
            must(false, 6, "no synchronized: " + place(tree));
            return super.visitSynchronized(tree, v);
        }

        @Override
        public Void visitAssert(AssertTree tree, Void v) {
            must(false, 6, "no assert: " + place(tree));
            return super.visitAssert(tree, v);
        }

        @Override
        public Void visitTypeCast(TypeCastTree tree, Void v) {
            TypeMirror type = trees.getTypeMirror(getCurrentPath());
            must(type.getKind().isPrimitive(), 7, "no cast of objects: " + place(tree));
            return super.visitTypeCast(tree, v);
        }

        // ---- all of it together

        void weigh() {
            must(fields.size() <= MOST_CLASSES, 11, fields.size() + " classes");
            fields.forEach((type, n) -> must(n <= MOST_FIELDS, 11, n + " fields of " + type));
            for (ExecutableElement m : methods) {
                boolean face = m.getModifiers().contains(Modifier.PUBLIC) || m.getKind() == ElementKind.CONSTRUCTOR;
                must(face || !publicNames.contains(m.getSimpleName().toString()), 1, "a name of its own: " + m);
            }
            addOverriders();
            for (ExecutableElement m : methods) {
                List<Object> deepest = deepestFrom(m, new ArrayList<>());
                must(deepest.size() <= DEEPEST, 11, deepest.size() + " deep: " + deepest);
            }
        }

        /** The longest chain of calls from there, each method once: what calls itself is recursion, and not counted. */
        private List<Object> deepestFrom(Object from, List<Object> open) {
            List<Object> deepest = List.of();
            List<Object> path = new ArrayList<>(open);
            path.add(from);
            for (Object called : calls.getOrDefault(from, Set.of())) {
                if (!path.contains(called)) {
                    List<Object> under = deepestFrom(called, path);
                    deepest = under.size() > deepest.size() ? under : deepest;
                }
            }
            List<Object> all = new ArrayList<>();
            all.add(from);
            all.addAll(deepest);
            return all;
        }
    }
}
