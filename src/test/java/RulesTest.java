import com.sun.source.tree.BinaryTree;
import com.sun.source.tree.BlockTree;
import com.sun.source.tree.ClassTree;
import com.sun.source.tree.CompilationUnitTree;
import com.sun.source.tree.CompoundAssignmentTree;
import com.sun.source.tree.ExpressionTree;
import com.sun.source.tree.ForLoopTree;
import com.sun.source.tree.LiteralTree;
import com.sun.source.tree.MethodInvocationTree;
import com.sun.source.tree.MethodTree;
import com.sun.source.tree.NewArrayTree;
import com.sun.source.tree.NewClassTree;
import com.sun.source.tree.Tree;
import com.sun.source.tree.TypeCastTree;
import com.sun.source.tree.VariableTree;
import com.sun.source.tree.WhileLoopTree;
import com.sun.source.util.JavacTask;
import com.sun.source.util.TreePath;
import com.sun.source.util.TreePathScanner;
import com.sun.source.util.Trees;
import java.nio.file.Path;
import java.util.ArrayDeque;
import java.util.Deque;
import java.util.LinkedHashMap;
import java.util.LinkedHashSet;
import java.util.List;
import java.util.Map;
import java.util.Set;
import javax.lang.model.element.Element;
import javax.lang.model.element.ElementKind;
import javax.lang.model.element.ExecutableElement;
import javax.lang.model.element.Modifier;
import javax.lang.model.element.NestingKind;
import javax.lang.model.element.TypeElement;
import javax.lang.model.element.VariableElement;
import javax.lang.model.type.ArrayType;
import javax.lang.model.type.DeclaredType;
import javax.lang.model.type.TypeKind;
import javax.lang.model.type.TypeMirror;
import javax.tools.JavaCompiler;
import javax.tools.StandardJavaFileManager;
import javax.tools.ToolProvider;

/** Rules of LANGUAGE.md that the compiler's own tree of the class tells: each finding is told with rule and line. */
public final class RulesTest {
    /** Rule 4, as far as the class uses it. */
    private static final Set<String> LIBRARY = Set.of("java.lang.Object.<init>()",
        "java.lang.Math.min(int,int)", "java.lang.Math.max(int,int)", "java.lang.Math.abs(int)",
        "java.lang.Integer.numberOfLeadingZeros(int)", "java.lang.Integer.numberOfTrailingZeros(int)",
        "java.lang.System.arraycopy(java.lang.Object,int,java.lang.Object,int,int)",
        "java.util.Arrays.fill(int[],int)", "java.util.Arrays.copyOf(byte[],int)");
    /** Rule 12: beside constructors these make objects or rows, each once for a place that is kept. */
    private static final Set<String> MAKERS = Set.of("PlaneBench.Shelf.add", "PlaneBench.Problem.makeLine");
    private static final int MOST_DEPTH = 8;
    private static final int MOST_LINES = 60;
    private static final int MOST_PARAMETERS = 7;
    private static final int MOST_FIELDS = 20;
    private static final int MOST_CLASSES = 12;

    private final Map<String, Set<String>> calls = new LinkedHashMap<>();
    private final Set<String> face = new LinkedHashSet<>();
    private CompilationUnitTree unit;
    private Trees trees;
    private int classes;
    private int loops;

    public static void main(String[] args) throws Exception {
        new RulesTest().read(Path.of(System.getProperty("project", "."), "src/main/java/PlaneBench.java"));
        Due.end("RulesTest");
    }

    private void read(Path file) throws Exception {
        JavaCompiler compiler = ToolProvider.getSystemJavaCompiler();
        try (StandardJavaFileManager files = compiler.getStandardFileManager(null, null, null)) {
            JavacTask task = (JavacTask) compiler.getTask(null, files, null, List.of("-proc:none", "-Xlint:all"), null,
                files.getJavaFileObjects(file));
            unit = task.parse().iterator().next();
            task.analyze();
            trees = Trees.instance(task);
            new Reader().scan(unit, null);
        }
        ask(1, unit, unit.getPackageName() == null, "no package line");
        ask(11, unit, classes <= MOST_CLASSES, "at most twelve classes");
        ask(9, unit, loops > 0 && calls.size() > 100, "the tree was read");
        for (String method : calls.keySet()) {
            int depth = depth(method, new ArrayDeque<>());
            ask(11, unit, depth <= MOST_DEPTH, method + " is called " + depth + " deep");
        }
    }

    private void ask(int rule, Tree tree, boolean kept, String what) {
        long at = trees == null ? 0 : trees.getSourcePositions().getStartPosition(unit, tree);
        long line = at < 0 ? 0 : unit.getLineMap().getLineNumber(at);
        Due.due("rule " + rule + ", line " + line + ": " + what, kept, true);
    }

    /** How many calls stand open at once below this one and with it; a method that comes again ahead of itself is told. */
    private int depth(String method, Deque<String> open) {
        if (open.contains(method)) {
            ask(8, unit, false, method + " calls itself");
            return 1000;
        }
        open.push(method);
        int most = 0;
        for (String next : calls.getOrDefault(method, Set.of())) {
            most = Math.max(most, depth(next, open));
        }
        open.pop();
        return most + 1;
    }

    private static String nameOf(ExecutableElement method) {
        StringBuilder text = new StringBuilder(((TypeElement) method.getEnclosingElement()).getQualifiedName());
        text.append('.').append(method.getSimpleName()).append('(');
        for (int i = 0; i < method.getParameters().size(); i++) {
            text.append(i == 0 ? "" : ",").append(method.getParameters().get(i).asType());
        }
        return text.append(')').toString();
    }

    private static boolean isOwn(Element element) {
        Element at = element;
        while (at != null && at.getKind() != ElementKind.PACKAGE) {
            if (at.getKind().isClass() && at.getSimpleName().contentEquals("PlaneBench")) {
                return true;
            }
            at = at.getEnclosingElement();
        }
        return false;
    }

    private final class Reader extends TreePathScanner<Void, Void> {
        private String method = "";
        private ExecutableElement present;

        private Element element(Tree tree) {
            return trees.getElement(new TreePath(getCurrentPath().getParentPath(), tree));
        }

        private TypeMirror type(Tree tree) {
            return trees.getTypeMirror(new TreePath(getCurrentPath(), tree));
        }

        /** Rule 3, as far as the class uses it. */
        private boolean isAllowed(TypeMirror type) {
            switch (type.getKind()) {
                case INT:
                case LONG:
                case BYTE:
                case BOOLEAN:
                case VOID:
                    return true;
                case ARRAY:
                    TypeMirror of = ((ArrayType) type).getComponentType();
                    return of.getKind() != TypeKind.ARRAY && isAllowed(of);
                case DECLARED:
                    return isOwn(((DeclaredType) type).asElement());
                default:
                    return false;
            }
        }

        @Override
        public Void visitClass(ClassTree tree, Void none) {
            TypeElement here = (TypeElement) element(tree);
            classes++;
            boolean outer = here.getNestingKind() == NestingKind.TOP_LEVEL;
            ask(2, tree, outer || here.getModifiers().contains(Modifier.STATIC)
                && here.getNestingKind() == NestingKind.MEMBER, "a class inside is static");
            ask(1, tree, outer == here.getModifiers().contains(Modifier.PUBLIC), "only the face is public");
            ask(1, tree, here.getModifiers().contains(Modifier.FINAL), "a class that none is made of");
            int fields = 0;
            for (Tree member : tree.getMembers()) {
                ask(5, member, !(member instanceof BlockTree), "no initialiser block");
                if (member instanceof VariableTree field
                    && !field.getModifiers().getFlags().contains(Modifier.STATIC)) {
                    fields++;
                    ask(1, member, !outer || field.getModifiers().getFlags().contains(Modifier.PRIVATE), "a private field");
                }
                if (outer && member instanceof MethodTree one
                    && one.getModifiers().getFlags().contains(Modifier.PUBLIC)) {
                    face.add(one.getName().toString());
                }
            }
            ask(11, tree, fields <= MOST_FIELDS, fields + " fields");
            return super.visitClass(tree, none);
        }

        @Override
        public Void visitMethod(MethodTree tree, Void none) {
            present = (ExecutableElement) element(tree);
            method = nameOf(present);
            calls.put(method, new LinkedHashSet<>());
            boolean isPublic = present.getModifiers().contains(Modifier.PUBLIC);
            ask(1, tree, isPublic || !face.contains(tree.getName().toString())
                || present.getKind() == ElementKind.CONSTRUCTOR, "a name of the face");
            ask(11, tree, tree.getParameters().size() <= MOST_PARAMETERS, "at most seven parameters");
            long first = trees.getSourcePositions().getStartPosition(unit, tree);
            long last = trees.getSourcePositions().getEndPosition(unit, tree);
            if (last > 0) {
                long lines = unit.getLineMap().getLineNumber(last) - unit.getLineMap().getLineNumber(first) + 1;
                ask(11, tree, lines <= MOST_LINES, lines + " lines");
            }
            ask(3, tree, isAllowed(present.getReturnType()), "answers " + present.getReturnType());
            ask(6, tree, tree.getThrows().isEmpty(), "no throws");
            return super.visitMethod(tree, none);
        }

        @Override
        public Void visitVariable(VariableTree tree, Void none) {
            Element here = element(tree);
            ask(3, tree, isAllowed(here.asType()), tree.getName() + " is of " + here.asType());
            if (here.getModifiers().contains(Modifier.STATIC)) {
                ask(5, tree, here.getModifiers().contains(Modifier.FINAL)
                    && ((VariableElement) here).getConstantValue() != null, "a constant");
            }
            return super.visitVariable(tree, none);
        }

        @Override
        public Void visitMethodInvocation(MethodInvocationTree tree, Void none) {
            called(tree, (ExecutableElement) trees.getElement(new TreePath(getCurrentPath(), tree.getMethodSelect())));
            return super.visitMethodInvocation(tree, none);
        }

        @Override
        public Void visitNewClass(NewClassTree tree, Void none) {
            ask(2, tree, tree.getClassBody() == null, "no class without a name");
            made(tree);
            called(tree, (ExecutableElement) trees.getElement(getCurrentPath()));
            return super.visitNewClass(tree, none);
        }

        @Override
        public Void visitNewArray(NewArrayTree tree, Void none) {
            made(tree);
            ask(3, tree, isAllowed(trees.getTypeMirror(getCurrentPath())), "a row of " + tree.getType());
            ask(7, tree, tree.getDimensions().size() == 1, "one length");
            return super.visitNewArray(tree, none);
        }

        private void called(Tree tree, ExecutableElement to) {
            String name = nameOf(to);
            ask(4, tree, isOwn(to) || LIBRARY.contains(name), "calls " + name);
            if (!method.isEmpty() && isOwn(to)) {
                calls.get(method).add(name);
            }
        }

        private void made(Tree tree) {
            boolean field = present == null || method.isEmpty() || !insideMethod();
            String name = method.contains("(") ? method.substring(0, method.indexOf('(')) : method;
            ask(12, tree, field || present.getKind() == ElementKind.CONSTRUCTOR || MAKERS.contains(name),
                method + " makes something");
        }

        private boolean insideMethod() {
            for (TreePath at = getCurrentPath(); at != null; at = at.getParentPath()) {
                if (at.getLeaf() instanceof MethodTree) {
                    return true;
                }
            }
            return false;
        }

        @Override
        public Void visitBinary(BinaryTree tree, Void none) {
            boolean divides = tree.getKind() == Tree.Kind.DIVIDE || tree.getKind() == Tree.Kind.REMAINDER;
            if (divides) {
                ask(7, tree, isKnownDivisor(tree.getRightOperand()), "divides by " + tree.getRightOperand());
            }
            ask(10, tree, isAllowed(trees.getTypeMirror(getCurrentPath())), "makes no text by +");
            return super.visitBinary(tree, none);
        }

        /** A number written out, or the one name that is tested ahead of its use. */
        private boolean isKnownDivisor(ExpressionTree divisor) {
            if (divisor instanceof LiteralTree number) {
                return number.getValue() instanceof Integer n && n != 0;
            }
            return method.startsWith("PlaneBench.Divider.guess(") && divisor.toString().equals("high");
        }

        @Override
        public Void visitCompoundAssignment(CompoundAssignmentTree tree, Void none) {
            if (tree.getKind() == Tree.Kind.DIVIDE_ASSIGNMENT || tree.getKind() == Tree.Kind.REMAINDER_ASSIGNMENT) {
                ask(7, tree, isKnownDivisor(tree.getExpression()), "divides by " + tree.getExpression());
            }
            return super.visitCompoundAssignment(tree, none);
        }

        @Override
        public Void visitTypeCast(TypeCastTree tree, Void none) {
            ask(6, tree, type(tree.getType()).getKind().isPrimitive(), "casts to " + tree.getType());
            return super.visitTypeCast(tree, none);
        }

        @Override
        public Void visitForLoop(ForLoopTree tree, Void none) {
            loops++;
            ask(9, tree, tree.getCondition() != null && tree.getUpdate().size() == 1, "counts against a bound");
            return super.visitForLoop(tree, none);
        }

        @Override
        public Void visitWhileLoop(WhileLoopTree tree, Void none) {
            loops++;
            ask(9, tree, !tree.getCondition().toString().equals("(true)"), "has an end");
            return super.visitWhileLoop(tree, none);
        }

        @Override
        public Void scan(Tree tree, Void none) {
            if (tree != null) {
                switch (tree.getKind()) {
                    case THROW:
                    case TRY:
                    case CATCH:
                    case SYNCHRONIZED:
                    case ASSERT:
                    case INSTANCE_OF:
                    case STRING_LITERAL:
                    case SWITCH_EXPRESSION:
                        ask(6, tree, false, "a " + tree.getKind());
                        break;
                    case LAMBDA_EXPRESSION:
                    case MEMBER_REFERENCE:
                        ask(2, tree, false, "a " + tree.getKind());
                        break;
                    default:
                        break;
                }
            }
            return super.scan(tree, none);
        }
    }
}
