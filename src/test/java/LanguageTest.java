import com.sun.source.tree.AssertTree;
import com.sun.source.tree.BinaryTree;
import com.sun.source.tree.BlockTree;
import com.sun.source.tree.ClassTree;
import com.sun.source.tree.CompilationUnitTree;
import com.sun.source.tree.DoWhileLoopTree;
import com.sun.source.tree.ExpressionTree;
import com.sun.source.tree.ForLoopTree;
import com.sun.source.tree.LambdaExpressionTree;
import com.sun.source.tree.LineMap;
import com.sun.source.tree.LiteralTree;
import com.sun.source.tree.MemberReferenceTree;
import com.sun.source.tree.MethodInvocationTree;
import com.sun.source.tree.MethodTree;
import com.sun.source.tree.NewArrayTree;
import com.sun.source.tree.NewClassTree;
import com.sun.source.tree.SynchronizedTree;
import com.sun.source.tree.ThrowTree;
import com.sun.source.tree.Tree;
import com.sun.source.tree.TryTree;
import com.sun.source.tree.VariableTree;
import com.sun.source.tree.WhileLoopTree;
import com.sun.source.util.JavacTask;
import com.sun.source.util.SourcePositions;
import com.sun.source.util.TreePathScanner;
import com.sun.source.util.Trees;
import java.io.IOException;
import java.nio.file.Path;
import java.util.HashMap;
import java.util.HashSet;
import java.util.List;
import java.util.Map;
import java.util.Set;
import javax.lang.model.element.Element;
import javax.lang.model.element.Modifier;
import javax.lang.model.type.ArrayType;
import javax.lang.model.type.TypeKind;
import javax.lang.model.type.TypeMirror;
import javax.tools.JavaCompiler;
import javax.tools.StandardJavaFileManager;
import javax.tools.ToolProvider;

/** The rules of ../shared/LANGUAGE.md, as far as the text of the class shows whether it keeps to them. */
public final class LanguageTest {
    private static final Due DUE = new Due();
    private static final Path SOURCE = Path.of("src", "main", "java", "FrameFerry.java");
    private static final Set<String> THROWN = Set.of("IllegalStateException", "IllegalArgumentException",
        "IndexOutOfBoundsException", "ArithmeticException", "UnsupportedOperationException", "NoSuchElementException",
        "RuntimeException");
    private static final Set<String> TEXTS = Set.of("length", "charAt", "isEmpty", "equals", "indexOf", "substring",
        "toCharArray", "append", "setCharAt", "setLength", "deleteCharAt", "reverse", "toString");
    private static final Set<String> LISTS = Set.of("add", "get", "set", "remove", "size", "isEmpty", "clear", "of");
    private static final Set<String> ARRAYS = Set.of("arraycopy", "copyOf", "copyOfRange", "fill", "clone");

    public static void main(String[] args) throws IOException {
        JavaCompiler compiler = ToolProvider.getSystemJavaCompiler();
        try (StandardJavaFileManager files = compiler.getStandardFileManager(null, null, null)) {
            JavacTask task = (JavacTask) compiler.getTask(null, files, null, List.of("--release", "17", "-proc:none"), null,
                files.getJavaFileObjects(SOURCE));
            CompilationUnitTree unit = task.parse().iterator().next();
            task.analyze();
            Rules rules = new Rules(Trees.instance(task), unit);
            rules.scan(unit, null);
            rules.whole();
        }
        DUE.end();
    }

    private static final class Rules extends TreePathScanner<Void, Void> {
        private final Trees trees;
        private final CompilationUnitTree unit;
        private final Map<Element, Set<Element>> calls = new HashMap<>();
        private Element method;
        private int classes;
        private int loops;

        Rules(Trees trees, CompilationUnitTree unit) {
            this.trees = trees;
            this.unit = unit;
        }

        /** What is to be seen when all has been gone through. */
        void whole() {
            must(unit.getPackageName() == null, "a package line", unit);
            must(unit.getImports().isEmpty(), "4: an import, of which the class has no need", unit);
            must(unit.getTypeDecls().size() == 1, "1: one class, and all others inside it", unit);
            must(classes <= 12, "11: " + classes + " classes", unit);
            for (Element each : calls.keySet()) {
                int depth = depth(each, new HashSet<>());
                must(depth <= 8, "11: calls " + depth + " deep from " + each, unit);
            }
        }

        /** How many methods stand open at once, at most; far too many if one calls itself. */
        private int depth(Element from, Set<Element> open) {
            if (!open.add(from)) {
                return 1000;
            }
            int most = 0;
            for (Element next : calls.getOrDefault(from, Set.of())) {
                most = Math.max(most, depth(next, open));
            }
            open.remove(from);
            return most + 1;
        }

        private void must(boolean kept, String rule, Tree tree) {
            LineMap lines = unit.getLineMap();
            long at = trees.getSourcePositions().getStartPosition(unit, tree);
            DUE.is("rule " + rule + ", line " + (at < 0 ? 0 : lines.getLineNumber(at)), kept, true);
        }

        private boolean isOwn(Element element) {
            Element each = element;
            while (each != null && !each.getSimpleName().contentEquals("FrameFerry")) {
                each = each.getEnclosingElement();
            }
            return each != null;
        }

        private boolean isAllowed(TypeMirror type) {
            if (type.getKind().isPrimitive() || type.getKind() == TypeKind.VOID) {
                return true;
            }
            if (type.getKind() == TypeKind.ARRAY) {
                TypeMirror part = ((ArrayType) type).getComponentType();
                boolean rows = part.getKind() == TypeKind.ARRAY;
                return rows ? ((ArrayType) part).getComponentType().getKind().isPrimitive() : isAllowed(part);
            }
            String name = type.toString();
            return name.startsWith("FrameFerry") || name.equals("java.lang.String") || name.equals("java.lang.StringBuilder")
                || name.startsWith("java.util.ArrayList<") || name.startsWith("java.util.List<");
        }

        @Override
        public Void visitClass(ClassTree tree, Void none) {
            classes++;
            must(getCurrentPath().getParentPath().getLeaf().getKind() != Tree.Kind.BLOCK, "2: a class in a method", tree);
            int fields = 0;
            for (Tree member : tree.getMembers()) {
                if (member instanceof VariableTree) {
                    fields += ((VariableTree) member).getModifiers().getFlags().contains(Modifier.STATIC) ? 0 : 1;
                }
                must(!(member instanceof BlockTree), "5: an initialiser block", member);
            }
            must(fields <= 20, "11: " + fields + " fields", tree);
            return super.visitClass(tree, none);
        }

        @Override
        public Void visitVariable(VariableTree tree, Void none) {
            Set<Modifier> flags = tree.getModifiers().getFlags();
            must(!flags.contains(Modifier.STATIC) || flags.contains(Modifier.FINAL), "5: static and not final", tree);
            must(isAllowed(trees.getElement(getCurrentPath()).asType()), "3: the type of " + tree.getName(), tree);
            return super.visitVariable(tree, none);
        }

        @Override
        public Void visitMethod(MethodTree tree, Void none) {
            must(tree.getParameters().size() <= 7, "11: parameters of " + tree.getName(), tree);
            SourcePositions at = trees.getSourcePositions();
            long lines = unit.getLineMap().getLineNumber(Math.max(0, at.getEndPosition(unit, tree)))
                - unit.getLineMap().getLineNumber(Math.max(0, at.getStartPosition(unit, tree)));
            must(lines < 60, "11: lines of " + tree.getName(), tree);
            method = trees.getElement(getCurrentPath());
            calls.put(method, new HashSet<>());
            super.visitMethod(tree, none);
            method = null;
            return null;
        }

        @Override
        public Void visitMethodInvocation(MethodInvocationTree tree, Void none) {
            Element called = trees.getElement(getCurrentPath());
            if (!isOwn(called)) {
                must(isInLibrary(called), "4: " + called.getEnclosingElement() + "." + called, tree);
            } else if (method != null) {
                calls.get(method).add(called);
            }
            return super.visitMethodInvocation(tree, none);
        }

        private boolean isInLibrary(Element called) {
            String name = called.getSimpleName().toString();
            switch (called.getEnclosingElement().toString()) {
                case "java.lang.Object": return name.equals("<init>");
                case "java.lang.Math": case "java.lang.Integer": case "java.lang.Long":
                    return called.getModifiers().contains(Modifier.STATIC) && !name.endsWith("Exact") && !name.equals("random");
                case "java.lang.System": case "java.util.Arrays": case "Array": return ARRAYS.contains(name);
                case "java.lang.String": case "java.lang.StringBuilder": return TEXTS.contains(name);
                case "java.util.ArrayList": case "java.util.List": return LISTS.contains(name);
                default: return false;
            }
        }

        @Override
        public Void visitNewClass(NewClassTree tree, Void none) {
            must(loops == 0, "12: an object made in a loop", tree);
            must(tree.getClassBody() == null, "2: a class without a name", tree);
            return super.visitNewClass(tree, none);
        }

        @Override
        public Void visitNewArray(NewArrayTree tree, Void none) {
            must(loops == 0, "12: a row made in a loop", tree);
            return super.visitNewArray(tree, none);
        }

        @Override
        public Void visitThrow(ThrowTree tree, Void none) {
            ExpressionTree thrown = tree.getExpression();
            boolean made = thrown instanceof NewClassTree;
            must(made && THROWN.contains(((NewClassTree) thrown).getIdentifier().toString()), "6: what is thrown", tree);
            for (ExpressionTree argument : made ? ((NewClassTree) thrown).getArguments() : List.<ExpressionTree>of()) {
                must(argument instanceof LiteralTree, "6: a written text", tree);
            }
            must(method != null && !method.getSimpleName().contentEquals("<init>"), "6: a throw in a constructor", tree);
            return super.visitThrow(tree, none);
        }

        @Override
        public Void visitForLoop(ForLoopTree tree, Void none) {
            must(tree.getCondition() != null, "9: a loop without an end", tree);
            loops++;
            super.visitForLoop(tree, none);
            loops--;
            return null;
        }

        @Override
        public Void visitWhileLoop(WhileLoopTree tree, Void none) {
            must(!tree.getCondition().toString().contains("true"), "9: a loop without an end", tree);
            loops++;
            super.visitWhileLoop(tree, none);
            loops--;
            return null;
        }

        @Override
        public Void visitDoWhileLoop(DoWhileLoopTree tree, Void none) {
            must(!tree.getCondition().toString().contains("true"), "9: a loop without an end", tree);
            loops++;
            super.visitDoWhileLoop(tree, none);
            loops--;
            return null;
        }

        @Override
        public Void visitBinary(BinaryTree tree, Void none) {
            boolean text = trees.getTypeMirror(getCurrentPath()).toString().equals("java.lang.String");
            must(!text, "10: texts joined by +", tree);
            return super.visitBinary(tree, none);
        }

        @Override
        public Void visitLambdaExpression(LambdaExpressionTree tree, Void none) {
            must(false, "2: a lambda", tree);
            return super.visitLambdaExpression(tree, none);
        }

        @Override
        public Void visitMemberReference(MemberReferenceTree tree, Void none) {
            must(false, "2: a method reference", tree);
            return super.visitMemberReference(tree, none);
        }

        @Override
        public Void visitTry(TryTree tree, Void none) {
            must(tree.getFinallyBlock() == null && tree.getResources().isEmpty(), "6: finally, or resources", tree);
            return super.visitTry(tree, none);
        }

        @Override
        public Void visitAssert(AssertTree tree, Void none) {
            must(false, "6: assert", tree);
            return super.visitAssert(tree, none);
        }

        @Override
        public Void visitSynchronized(SynchronizedTree tree, Void none) {
            must(false, "6: synchronized", tree);
            return super.visitSynchronized(tree, none);
        }
    }
}
