import com.sun.source.tree.AssertTree;
import com.sun.source.tree.BinaryTree;
import com.sun.source.tree.ClassTree;
import com.sun.source.tree.CompilationUnitTree;
import com.sun.source.tree.CompoundAssignmentTree;
import com.sun.source.tree.DoWhileLoopTree;
import com.sun.source.tree.ForLoopTree;
import com.sun.source.tree.ImportTree;
import com.sun.source.tree.LambdaExpressionTree;
import com.sun.source.tree.MemberReferenceTree;
import com.sun.source.tree.MethodInvocationTree;
import com.sun.source.tree.MethodTree;
import com.sun.source.tree.NewClassTree;
import com.sun.source.tree.SynchronizedTree;
import com.sun.source.tree.ThrowTree;
import com.sun.source.tree.Tree;
import com.sun.source.tree.TryTree;
import com.sun.source.tree.TypeCastTree;
import com.sun.source.tree.VariableTree;
import com.sun.source.tree.WhileLoopTree;
import com.sun.source.util.JavacTask;
import com.sun.source.util.TreePath;
import com.sun.source.util.TreePathScanner;
import com.sun.source.util.Trees;
import java.io.IOException;
import java.nio.file.Path;
import java.util.LinkedHashMap;
import java.util.LinkedHashSet;
import java.util.List;
import java.util.Map;
import java.util.Set;
import javax.lang.model.element.Element;
import javax.lang.model.element.ElementKind;
import javax.lang.model.element.ExecutableElement;
import javax.lang.model.element.Modifier;
import javax.tools.JavaCompiler;
import javax.tools.StandardJavaFileManager;
import javax.tools.ToolProvider;

/**
 * The rules of LANGUAGE.md, looked for in the class as javac itself reads it: each failure tells
 * the rule's number and the line.
 */
public final class LanguageTest {
    private static final Check CHECK = new Check("LanguageTest");
    private static final int METHOD_LINES = 60;
    private static final int PARAMETERS = 7;
    private static final int DEPTH = 8;
    private static final int CLASSES = 12;
    private static final int FIELDS = 20;

    /** Of rule 4 what the class uses; whatever else it lists is to be added when it is used. */
    private static final Set<String> LIBRARY = Set.of("java.lang.Math.min", "java.lang.Math.max");
    private static final Set<String> TYPES = Set.of("int", "boolean", "byte", "void", "int[]", "boolean[]", "byte[]");

    public static void main(String[] args) throws IOException {
        JavaCompiler compiler = ToolProvider.getSystemJavaCompiler();
        CHECK.yes("there is a compiler", compiler != null);
        if (compiler != null) {
            Path path = Path.of(System.getProperty("wakesaver.source", "src/main/java/WakeSaver.java"));
            try (StandardJavaFileManager files = compiler.getStandardFileManager(null, null, null)) {
                look((JavacTask) compiler.getTask(null, files, null, List.of("-proc:none"), null,
                        files.getJavaFileObjects(path)));
            }
        }
        CHECK.finish();
    }

    private static void look(JavacTask task) throws IOException {
        Iterable<? extends CompilationUnitTree> units = task.parse();
        task.analyze();
        for (CompilationUnitTree unit : units) {
            Rules rules = new Rules(Trees.instance(task), unit);
            rules.scan(unit, null);
            rules.finish();
        }
    }

    private static final class Rules extends TreePathScanner<Void, Void> {
        private final Trees trees;
        private final CompilationUnitTree unit;
        private final Map<Element, Set<Element>> calls = new LinkedHashMap<>();
        private Element method;
        private int classes;

        Rules(Trees trees, CompilationUnitTree unit) {
            this.trees = trees;
            this.unit = unit;
        }

        private long line(long position) {
            return unit.getLineMap().getLineNumber(position);
        }

        private void rule(int number, String what, Tree tree, boolean holds) {
            long at = line(trees.getSourcePositions().getStartPosition(unit, tree));
            CHECK.yes("rule " + number + ", line " + at + ": " + what, holds);
        }

        private Element element(Tree tree) {
            return trees.getElement(new TreePath(getCurrentPath(), tree));
        }

        private String type(Tree tree) {
            return String.valueOf(trees.getTypeMirror(new TreePath(getCurrentPath(), tree)));
        }

        /** What is called, and from where; a call outside any method is of its class. */
        private void called(Element callee) {
            calls.computeIfAbsent(method, key -> new LinkedHashSet<>()).add(callee);
        }

        private static boolean own(Element element) {
            return String.valueOf(element.getEnclosingElement()).startsWith("WakeSaver");
        }

        @Override
        public Void visitImport(ImportTree tree, Void none) {
            rule(4, "no import", tree, false);
            return super.visitImport(tree, none);
        }

        @Override
        public Void visitClass(ClassTree tree, Void none) {
            classes++;
            Element it = trees.getElement(getCurrentPath());
            Set<Modifier> modifiers = it.getModifiers();
            boolean outer = it.getSimpleName().contentEquals("WakeSaver");
            rule(1, "public and final, or private", tree, outer
                    ? modifiers.contains(Modifier.PUBLIC) && modifiers.contains(Modifier.FINAL)
                    : !modifiers.contains(Modifier.PUBLIC) && !modifiers.contains(Modifier.PROTECTED));
            rule(2, "static, with a name", tree, outer || modifiers.contains(Modifier.STATIC));
            int fields = 0;
            for (Element member : it.getEnclosedElements()) {
                boolean field = member.getKind() == ElementKind.FIELD;
                fields += field && !member.getModifiers().contains(Modifier.STATIC) ? 1 : 0;
            }
            rule(11, "fields: " + fields, tree, fields <= FIELDS);
            for (Tree member : tree.getMembers()) {
                rule(5, "no initialiser block", member, member.getKind() != Tree.Kind.BLOCK);
            }
            return super.visitClass(tree, none);
        }

        @Override
        public Void visitMethod(MethodTree tree, Void none) {
            Element outside = method;
            method = trees.getElement(getCurrentPath());
            calls.computeIfAbsent(method, key -> new LinkedHashSet<>());
            long first = line(trees.getSourcePositions().getStartPosition(unit, tree));
            long last = line(trees.getSourcePositions().getEndPosition(unit, tree));
            rule(11, "lines of " + method, tree, last - first < METHOD_LINES);
            rule(11, "parameters of " + method, tree, tree.getParameters().size() <= PARAMETERS);
            super.visitMethod(tree, none);
            method = outside;
            return null;
        }

        @Override
        public Void visitVariable(VariableTree tree, Void none) {
            Element it = trees.getElement(getCurrentPath());
            Set<Modifier> modifiers = it.getModifiers();
            boolean constant = modifiers.contains(Modifier.STATIC);
            rule(5, "static fields are final ints", tree, !constant
                    || modifiers.contains(Modifier.FINAL) && it.asType().toString().equals("int"));
            String type = it.asType().toString();
            rule(3, "type " + type, tree, TYPES.contains(type) || type.startsWith("WakeSaver"));
            return super.visitVariable(tree, none);
        }

        @Override
        public Void visitMethodInvocation(MethodInvocationTree tree, Void none) {
            Element callee = element(tree.getMethodSelect());
            if (!(callee instanceof ExecutableElement)) {
                rule(4, "a call of nothing known", tree, false);
            } else if (own(callee)) {
                called(callee);
            } else if (!callee.getSimpleName().contentEquals("<init>")) {
                String name = callee.getEnclosingElement() + "." + callee.getSimpleName();
                rule(4, name, tree, LIBRARY.contains(name));
            }
            return super.visitMethodInvocation(tree, none);
        }

        @Override
        public Void visitNewClass(NewClassTree tree, Void none) {
            Element made = trees.getElement(getCurrentPath());
            rule(3, "new " + made, tree, made != null && own(made));
            rule(2, "no class without a name", tree, tree.getClassBody() == null);
            if (made != null) {
                called(made);
            }
            return super.visitNewClass(tree, none);
        }

        @Override
        public Void visitBinary(BinaryTree tree, Void none) {
            boolean joins = tree.getKind() == Tree.Kind.PLUS;
            rule(10, "texts joined by +", tree, !joins || !type(tree).equals("java.lang.String"));
            return super.visitBinary(tree, none);
        }

        @Override
        public Void visitCompoundAssignment(CompoundAssignmentTree tree, Void none) {
            rule(10, "texts joined by +=", tree, !type(tree.getVariable()).equals("java.lang.String"));
            return super.visitCompoundAssignment(tree, none);
        }

        @Override
        public Void visitTypeCast(TypeCastTree tree, Void none) {
            rule(6, "casts of numbers alone", tree, TYPES.contains(type(tree.getType())));
            return super.visitTypeCast(tree, none);
        }

        @Override
        public Void visitForLoop(ForLoopTree tree, Void none) {
            rule(9, "a loop without an end", tree, tree.getCondition() != null && !tree.getUpdate().isEmpty());
            return super.visitForLoop(tree, none);
        }

        @Override
        public Void visitWhileLoop(WhileLoopTree tree, Void none) {
            rule(9, "a loop whose end is not looked at", tree, !tree.getCondition().toString().equals("(true)"));
            return super.visitWhileLoop(tree, none);
        }

        @Override
        public Void visitDoWhileLoop(DoWhileLoopTree tree, Void none) {
            rule(9, "a loop whose end is not looked at", tree, !tree.getCondition().toString().equals("(true)"));
            return super.visitDoWhileLoop(tree, none);
        }

        @Override
        public Void visitThrow(ThrowTree tree, Void none) {
            rule(6, "throw", tree, false);
            return super.visitThrow(tree, none);
        }

        @Override
        public Void visitTry(TryTree tree, Void none) {
            rule(6, "try", tree, false);
            return super.visitTry(tree, none);
        }

        @Override
        public Void visitSynchronized(SynchronizedTree tree, Void none) {
            rule(6, "synchronized", tree, false);
            return super.visitSynchronized(tree, none);
        }

        @Override
        public Void visitAssert(AssertTree tree, Void none) {
            rule(6, "assert", tree, false);
            return super.visitAssert(tree, none);
        }

        @Override
        public Void visitLambdaExpression(LambdaExpressionTree tree, Void none) {
            rule(2, "lambda", tree, false);
            return super.visitLambdaExpression(tree, none);
        }

        @Override
        public Void visitMemberReference(MemberReferenceTree tree, Void none) {
            rule(2, "method reference", tree, false);
            return super.visitMemberReference(tree, none);
        }

        void finish() {
            CHECK.yes("rule 4: no package line", unit.getPackageName() == null);
            CHECK.yes("rule 11: classes: " + classes, classes > 0 && classes <= CLASSES);
            CHECK.yes("calls were found", calls.size() > CLASSES);
            for (Element it : calls.keySet()) {
                int deep = depth(it, DEPTH + 1);
                CHECK.yes("rule 11: calls of " + (it == null ? null : it.getEnclosingElement() + "." + it)
                        + " go " + deep + " deep", deep <= DEPTH);
            }
        }

        /** How many calls stand open at once, itself too; it looks no deeper than the limit. */
        private int depth(Element it, int limit) {
            int deepest = 0;
            if (limit > 1) {
                for (Element callee : calls.getOrDefault(it, Set.of())) {
                    deepest = Math.max(deepest, depth(callee, limit - 1));
                }
            }
            return 1 + deepest;
        }
    }
}
