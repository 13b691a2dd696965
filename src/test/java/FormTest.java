import com.sun.source.tree.AssertTree;
import com.sun.source.tree.BinaryTree;
import com.sun.source.tree.BlockTree;
import com.sun.source.tree.CatchTree;
import com.sun.source.tree.ClassTree;
import com.sun.source.tree.CompilationUnitTree;
import com.sun.source.tree.LambdaExpressionTree;
import com.sun.source.tree.LiteralTree;
import com.sun.source.tree.MemberReferenceTree;
import com.sun.source.tree.MethodInvocationTree;
import com.sun.source.tree.MethodTree;
import com.sun.source.tree.NewClassTree;
import com.sun.source.tree.SynchronizedTree;
import com.sun.source.tree.ThrowTree;
import com.sun.source.tree.Tree;
import com.sun.source.tree.TryTree;
import com.sun.source.tree.VariableTree;
import com.sun.source.util.JavacTask;
import com.sun.source.util.TreePath;
import com.sun.source.util.TreePathScanner;
import com.sun.source.util.Trees;
import java.io.IOException;
import java.nio.file.Path;
import java.util.ArrayList;
import java.util.LinkedHashMap;
import java.util.List;
import java.util.Map;
import java.util.Set;
import java.util.TreeSet;
import javax.lang.model.element.Element;
import javax.lang.model.element.ElementKind;
import javax.lang.model.element.Modifier;
import javax.lang.model.type.TypeKind;
import javax.tools.JavaCompiler;
import javax.tools.StandardJavaFileManager;
import javax.tools.ToolProvider;

/** The form of the class, as far as the compiler's own tree of it can tell: LANGUAGE.md, rules 1 to 6, 8, 10 to 12. */
public final class FormTest {
    private static final Set<String> LIBRARY = Set.of("java.lang.String.length()", "java.lang.String.charAt(int)", "java.lang.Math.min(int,int)",
            "java.lang.Math.max(int,int)", "java.lang.Math.max(long,long)", "java.lang.Integer.bitCount(int)", "java.util.Arrays.fill(int[],int)",
            "java.lang.System.arraycopy(java.lang.Object,int,java.lang.Object,int,int)");
    private static final Set<String> THROWN = Set.of("IllegalStateException", "IllegalArgumentException", "IndexOutOfBoundsException",
            "UnsupportedOperationException", "NoSuchElementException");

    private final Map<String, Set<String>> calls = new LinkedHashMap<>();
    private final Map<String, Boolean> isPrivate = new LinkedHashMap<>();

    public static void main(String[] args) throws IOException {
        JavaCompiler compiler = ToolProvider.getSystemJavaCompiler();
        StandardJavaFileManager files = compiler.getStandardFileManager(null, null, null);
        JavacTask task = (JavacTask) compiler.getTask(null, files, null, List.of("-proc:none"), null,
                files.getJavaFileObjects(Path.of("src/main/java/LateInks.java")));
        CompilationUnitTree unit = task.parse().iterator().next();
        task.analyze();
        FormTest test = new FormTest();
        new Walk(test, Trees.instance(task), unit).scan(unit, null);
        test.depths();
        Kit.end();
    }

    private static void hold(boolean holds, String what) {
        Kit.is(what, holds, true);
    }

    /** Calls that are no recursion go at most eight deep, what is called of the library counted; those that are one are private. */
    private void depths() {
        for (String method : calls.keySet()) {
            hold(depth(method, new ArrayList<>()) <= 8, method + " goes at most eight deep");
            hold(!reaches(method, method, new TreeSet<>()) || isPrivate.get(method), method + " is private or no recursion");
        }
    }

    private int depth(String method, List<String> open) {
        int most = 0;
        open.add(method);
        for (String called : calls.getOrDefault(method, Set.of())) {
            most = open.contains(called) ? most : Math.max(most, depth(called, open));
        }
        open.remove(open.size() - 1);
        return most + 1;
    }

    private boolean reaches(String from, String to, Set<String> seen) {
        for (String called : calls.getOrDefault(from, Set.of())) {
            if (called.equals(to) || seen.add(called) && reaches(called, to, seen)) {
                return true;
            }
        }
        return false;
    }

    private static final class Walk extends TreePathScanner<Void, Void> {
        private final FormTest test;
        private final Trees trees;
        private final CompilationUnitTree unit;
        private int classes = 0;
        private String method = "";
        private boolean isConstructor = false;

        Walk(FormTest test, Trees trees, CompilationUnitTree unit) {
            this.test = test;
            this.trees = trees;
            this.unit = unit;
        }

        private long lineOf(long position) {
            return unit.getLineMap().getLineNumber(position);
        }

        private String at(Tree tree) {
            return " (line " + lineOf(trees.getSourcePositions().getStartPosition(unit, tree)) + ")";
        }

        private static String nameOf(Element e) {
            return e.getEnclosingElement() + "." + e;
        }

        @Override
        public Void visitClass(ClassTree tree, Void none) {
            classes++;
            hold(classes <= 12, "some twelve classes" + at(tree));
            int fields = 0;
            for (Tree member : tree.getMembers()) {
                if (member instanceof VariableTree field) {
                    boolean isStatic = field.getModifiers().getFlags().contains(Modifier.STATIC);
                    fields += isStatic ? 0 : 1;
                    hold(!isStatic || field.getModifiers().getFlags().contains(Modifier.FINAL), "a static field is final" + at(field));
                }
                hold(!(member instanceof BlockTree), "no block of its own in a class" + at(member));
            }
            hold(fields <= 20, "some twenty fields" + at(tree));
            return super.visitClass(tree, none);
        }

        @Override
        public Void visitMethod(MethodTree tree, Void none) {
            String before = method;
            Element e = trees.getElement(getCurrentPath());
            method = nameOf(e);
            isConstructor = e.getKind() == ElementKind.CONSTRUCTOR;
            test.calls.putIfAbsent(method, new TreeSet<>());
            test.isPrivate.put(method, tree.getModifiers().getFlags().contains(Modifier.PRIVATE));
            long begin = trees.getSourcePositions().getStartPosition(unit, tree);
            long end = trees.getSourcePositions().getEndPosition(unit, tree);
            hold(end < 0 || lineOf(end) - lineOf(begin) < 60, "some sixty lines" + at(tree));
            hold(tree.getParameters().size() <= 7, "at most seven parameters" + at(tree));
            super.visitMethod(tree, none);
            method = before;
            return null;
        }

        @Override
        public Void visitMethodInvocation(MethodInvocationTree tree, Void none) {
            Element e = trees.getElement(new TreePath(getCurrentPath(), tree.getMethodSelect()));
            boolean isOwn = e.getKind() == ElementKind.CONSTRUCTOR || nameOf(e).startsWith("LateInks");
            hold(isOwn || LIBRARY.contains(nameOf(e)), "a call that the rules list: " + nameOf(e) + at(tree));
            if (e.getKind() != ElementKind.CONSTRUCTOR && !method.isEmpty()) {
                test.calls.get(method).add(nameOf(e));
            }
            return super.visitMethodInvocation(tree, none);
        }

        @Override
        public Void visitNewClass(NewClassTree tree, Void none) {
            hold(tree.getClassBody() == null, "no class without a name" + at(tree));
            if (!method.isEmpty()) {
                test.calls.get(method).add("new " + tree.getIdentifier());
            }
            return super.visitNewClass(tree, none);
        }

        @Override
        public Void visitThrow(ThrowTree tree, Void none) {
            boolean isListed = tree.getExpression() instanceof NewClassTree made && THROWN.contains(made.getIdentifier().toString());
            hold(isListed, "an exception that the face declares" + at(tree));
            hold(!isConstructor, "no throw in a constructor" + at(tree));
            return super.visitThrow(tree, none);
        }

        @Override
        public Void visitBinary(BinaryTree tree, Void none) {
            TreePath left = new TreePath(getCurrentPath(), tree.getLeftOperand());
            TreePath right = new TreePath(getCurrentPath(), tree.getRightOperand());
            hold(tree.getKind() != Tree.Kind.PLUS || !isText(left) && !isText(right), "no text joined by +" + at(tree));
            boolean compares = tree.getKind() == Tree.Kind.EQUAL_TO || tree.getKind() == Tree.Kind.NOT_EQUAL_TO;
            hold(!compares || !isText(left) && !isText(right), "no texts compared by ==" + at(tree));
            return super.visitBinary(tree, none);
        }

        private boolean isText(TreePath path) {
            return trees.getTypeMirror(path).getKind() == TypeKind.DECLARED && trees.getTypeMirror(path).toString().equals("java.lang.String");
        }

        @Override
        public Void visitLiteral(LiteralTree tree, Void none) {
            if (tree.getValue() instanceof String text) {
                hold(text.chars().allMatch(c -> c >= 1 && c <= 127), "signs of 1 to 127" + at(tree));
            }
            return super.visitLiteral(tree, none);
        }

        @Override
        public Void visitTry(TryTree tree, Void none) {
            hold(tree.getFinallyBlock() == null && tree.getResources().isEmpty(), "a try with catches alone" + at(tree));
            return super.visitTry(tree, none);
        }

        @Override
        public Void visitCatch(CatchTree tree, Void none) {
            hold(false, "nothing is caught in this class" + at(tree));
            return super.visitCatch(tree, none);
        }

        @Override
        public Void visitLambdaExpression(LambdaExpressionTree tree, Void none) {
            hold(false, "no lambda" + at(tree));
            return super.visitLambdaExpression(tree, none);
        }

        @Override
        public Void visitMemberReference(MemberReferenceTree tree, Void none) {
            hold(false, "no method reference" + at(tree));
            return super.visitMemberReference(tree, none);
        }

        @Override
        public Void visitSynchronized(SynchronizedTree tree, Void none) {
            hold(false, "no synchronized" + at(tree));
            return super.visitSynchronized(tree, none);
        }

        @Override
        public Void visitAssert(AssertTree tree, Void none) {
            hold(false, "no assert" + at(tree));
            return super.visitAssert(tree, none);
        }
    }
}
