import com.sun.source.tree.AssertTree;
import com.sun.source.tree.BinaryTree;
import com.sun.source.tree.ClassTree;
import com.sun.source.tree.CompilationUnitTree;
import com.sun.source.tree.ExpressionTree;
import com.sun.source.tree.LambdaExpressionTree;
import com.sun.source.tree.LineMap;
import com.sun.source.tree.LiteralTree;
import com.sun.source.tree.MemberReferenceTree;
import com.sun.source.tree.MethodInvocationTree;
import com.sun.source.tree.MethodTree;
import com.sun.source.tree.NewArrayTree;
import com.sun.source.tree.NewClassTree;
import com.sun.source.tree.ParenthesizedTree;
import com.sun.source.tree.SynchronizedTree;
import com.sun.source.tree.ThrowTree;
import com.sun.source.tree.Tree;
import com.sun.source.tree.TryTree;
import com.sun.source.tree.TypeCastTree;
import com.sun.source.tree.VariableTree;
import com.sun.source.util.JavacTask;
import com.sun.source.util.SourcePositions;
import com.sun.source.util.TreePath;
import com.sun.source.util.TreePathScanner;
import com.sun.source.util.Trees;
import java.io.IOException;
import java.nio.file.Path;
import java.util.HashMap;
import java.util.LinkedHashMap;
import java.util.LinkedHashSet;
import java.util.Map;
import java.util.Set;
import javax.lang.model.element.Element;
import javax.lang.model.element.ElementKind;
import javax.lang.model.element.ExecutableElement;
import javax.lang.model.element.Modifier;
import javax.lang.model.element.VariableElement;
import javax.lang.model.type.ArrayType;
import javax.lang.model.type.TypeKind;
import javax.lang.model.type.TypeMirror;
import javax.tools.JavaCompiler;
import javax.tools.StandardJavaFileManager;
import javax.tools.ToolProvider;

/**
 * The rules of LANGUAGE.md that can be seen in the class's text. It is narrower than the rules where
 * the class needs less than they leave: no try, no recursion, no object made but with the object.
 */
public final class LanguageTest {
    private static final Path SOURCE = Path.of("src/main/java/InvariantLearner.java");
    private static final Set<String> LIBRARY = Set.of("java.lang.Math.min", "java.lang.Math.max",
            "java.lang.System.arraycopy", "java.util.Arrays.fill", "java.lang.Object.<init>");
    private static final Set<String> THROWN = Set.of("IllegalStateException",
            "IllegalArgumentException", "IndexOutOfBoundsException", "ArithmeticException",
            "UnsupportedOperationException", "NoSuchElementException", "RuntimeException");
    private static final int MOST_LINES = 60;
    private static final int MOST_PARAMETERS = 7;
    private static final int MOST_FIELDS = 20;
    private static final int MOST_CLASSES = 12;
    private static final int DEEPEST = 8;

    public static void main(String[] args) throws IOException {
        JavaCompiler compiler = ToolProvider.getSystemJavaCompiler();
        try (StandardJavaFileManager files = compiler.getStandardFileManager(null, null, null)) {
            JavacTask task = (JavacTask) compiler.getTask(null, files, null, null, null,
                    files.getJavaFileObjects(args.length > 0 ? Path.of(args[0]) : SOURCE));
            CompilationUnitTree unit = task.parse().iterator().next();
            task.analyze();
            Rules rules = new Rules(Trees.instance(task), unit);
            rules.scan(unit, null);
            rules.end();
        }
        Due.end();
    }

    private static final class Rules extends TreePathScanner<Void, Void> {
        private final Trees trees;
        private final CompilationUnitTree unit;
        private final SourcePositions positions;
        private final LineMap lines;
        private final Map<Element, Set<Element>> calls = new LinkedHashMap<>();
        private final Map<Element, Integer> fields = new HashMap<>();
        private int classes;
        private Element method;

        Rules(Trees trees, CompilationUnitTree unit) {
            this.trees = trees;
            this.unit = unit;
            positions = trees.getSourcePositions();
            lines = unit.getLineMap();
        }

        void end() {
            Due.is("rule 11: classes: " + classes, classes <= MOST_CLASSES ? 1 : 0, 1);
            fields.forEach((one, many) -> Due.is("rule 11: fields of " + one + ": " + many,
                    many <= MOST_FIELDS ? 1 : 0, 1));
            Map<Element, Integer> known = new HashMap<>();
            for (Element one : calls.keySet()) {
                int depth = depthOf(one, known, new LinkedHashSet<>());
                Due.is("rule 11: " + one + " goes " + depth + " deep", depth <= DEEPEST ? 1 : 0, 1);
            }
        }

        private int depthOf(Element one, Map<Element, Integer> known, Set<Element> open) {
            if (known.containsKey(one)) {
                return known.get(one);
            }
            open.add(one);
            int deepest = 0;
            for (Element other : calls.getOrDefault(one, Set.of())) {
                boolean isAgain = open.contains(other);
                Due.is("rule 8: " + other + " calls itself by " + open, isAgain ? 1 : 0, 0);
                deepest = isAgain ? deepest : Math.max(deepest, depthOf(other, known, open));
            }
            open.remove(one);
            known.put(one, deepest + 1);
            return deepest + 1;
        }

        private void never(String rule, Tree tree) {
            Due.is(at(tree) + rule, 1, 0);
        }

        private void must(String rule, Tree tree, boolean isSo) {
            Due.is(at(tree) + rule, isSo ? 1 : 0, 1);
        }

        private String at(Tree tree) {
            return "line " + lines.getLineNumber(positions.getStartPosition(unit, tree)) + ": ";
        }

        private Element elementOf(Tree tree) {
            return trees.getElement(new TreePath(getCurrentPath(), tree));
        }

        private boolean isOwn(TypeMirror type) {
            return type.getKind() == TypeKind.DECLARED
                    && type.toString().startsWith("InvariantLearner");
        }

        private boolean isLeft(TypeMirror type) {
            if (type.getKind() == TypeKind.ARRAY) {
                TypeMirror part = ((ArrayType) type).getComponentType();
                return part.getKind().isPrimitive() || isOwn(part);
            }
            return type.getKind().isPrimitive() || type.getKind() == TypeKind.VOID || isOwn(type);
        }

        @Override
        public Void visitClass(ClassTree tree, Void none) {
            classes++;
            must("rule 2: no class in a method", tree, method == null);
            must("rule 2: a class", tree, tree.getKind() == Tree.Kind.CLASS);
            return super.visitClass(tree, none);
        }

        @Override
        public Void visitVariable(VariableTree tree, Void none) {
            VariableElement element = (VariableElement) trees.getElement(getCurrentPath());
            must("rule 3: type of " + element, tree, isLeft(element.asType()));
            if (element.getKind() == ElementKind.FIELD) {
                if (element.getModifiers().contains(Modifier.STATIC)) {
                    must("rule 5: " + element + " is a constant", tree,
                            element.getConstantValue() != null);
                } else {
                    fields.merge(element.getEnclosingElement(), 1, Integer::sum);
                }
            }
            return super.visitVariable(tree, none);
        }

        @Override
        public Void visitMethod(MethodTree tree, Void none) {
            Element before = method;
            method = trees.getElement(getCurrentPath());
            calls.putIfAbsent(method, new LinkedHashSet<>());
            long from = lines.getLineNumber(positions.getStartPosition(unit, tree));
            long to = lines.getLineNumber(positions.getEndPosition(unit, tree));
            must("rule 11: lines of " + method, tree, to - from < MOST_LINES);
            must("rule 11: parameters of " + method, tree,
                    tree.getParameters().size() <= MOST_PARAMETERS);
            must("rule 3: answer of " + method, tree,
                    isLeft(((ExecutableElement) method).getReturnType()));
            super.visitMethod(tree, none);
            method = before;
            return null;
        }

        @Override
        public Void visitMethodInvocation(MethodInvocationTree tree, Void none) {
            Element called = elementOf(tree);
            Element owner = called.getEnclosingElement();
            String name = owner + "." + called.getSimpleName();
            must("rule 4: " + name, tree, isOwn(owner.asType()) || LIBRARY.contains(name));
            if (method != null) {
                calls.get(method).add(called);
            }
            return super.visitMethodInvocation(tree, none);
        }

        @Override
        public Void visitThrow(ThrowTree tree, Void none) {
            boolean isMade = tree.getExpression() instanceof NewClassTree;
            must("rule 6: throw new", tree, isMade);
            if (isMade) {
                NewClassTree made = (NewClassTree) tree.getExpression();
                must("rule 6: what is thrown", tree,
                        THROWN.contains(made.getIdentifier().toString()));
                for (ExpressionTree text : made.getArguments()) {
                    must("rule 6: a written text", tree, text instanceof LiteralTree);
                }
            }
            must("rule 6: no throw in a constructor", tree,
                    method.getKind() != ElementKind.CONSTRUCTOR);
            return null;
        }

        @Override
        public Void visitNewClass(NewClassTree tree, Void none) {
            must("rule 12: made with the object", tree, isMadeWithTheObject());
            must("rule 4: an own class", tree, tree.getClassBody() == null
                    && isOwn(trees.getTypeMirror(getCurrentPath())));
            return super.visitNewClass(tree, none);
        }

        @Override
        public Void visitNewArray(NewArrayTree tree, Void none) {
            must("rule 12: made with the object", tree, isMadeWithTheObject());
            for (ExpressionTree length : tree.getDimensions()) {
                must("rule 7: a constant as length: " + length, tree, isConstant(length));
            }
            return super.visitNewArray(tree, none);
        }

        private boolean isConstant(ExpressionTree tree) {
            if (tree instanceof BinaryTree both) {
                return isConstant(both.getLeftOperand()) && isConstant(both.getRightOperand());
            }
            if (tree instanceof ParenthesizedTree round) {
                return isConstant(round.getExpression());
            }
            return tree instanceof LiteralTree || elementOf(tree) instanceof VariableElement named
                    && named.getConstantValue() != null;
        }

        private boolean isMadeWithTheObject() {
            return method == null || method.getKind() == ElementKind.CONSTRUCTOR;
        }

        @Override
        public Void visitTypeCast(TypeCastTree tree, Void none) {
            must("rule 6: a cast of numbers", tree,
                    trees.getTypeMirror(getCurrentPath()).getKind().isPrimitive());
            return super.visitTypeCast(tree, none);
        }

        @Override
        public Void visitLambdaExpression(LambdaExpressionTree tree, Void none) {
            never("rule 2: no lambda", tree);
            return super.visitLambdaExpression(tree, none);
        }

        @Override
        public Void visitMemberReference(MemberReferenceTree tree, Void none) {
            never("rule 2: no method reference", tree);
            return super.visitMemberReference(tree, none);
        }

        @Override
        public Void visitTry(TryTree tree, Void none) {
            never("rule 6: no try is needed", tree);
            return super.visitTry(tree, none);
        }

        @Override
        public Void visitSynchronized(SynchronizedTree tree, Void none) {
            never("rule 6: no synchronized", tree);
            return super.visitSynchronized(tree, none);
        }

        @Override
        public Void visitAssert(AssertTree tree, Void none) {
            never("rule 6: no assert", tree);
            return super.visitAssert(tree, none);
        }
    }
}
