import com.sun.source.tree.AssertTree;
import com.sun.source.tree.BinaryTree;
import com.sun.source.tree.BlockTree;
import com.sun.source.tree.CatchTree;
import com.sun.source.tree.ClassTree;
import com.sun.source.tree.CompilationUnitTree;
import com.sun.source.tree.CompoundAssignmentTree;
import com.sun.source.tree.ExpressionTree;
import com.sun.source.tree.ImportTree;
import com.sun.source.tree.LambdaExpressionTree;
import com.sun.source.tree.LiteralTree;
import com.sun.source.tree.MemberReferenceTree;
import com.sun.source.tree.MethodInvocationTree;
import com.sun.source.tree.MethodTree;
import com.sun.source.tree.NewClassTree;
import com.sun.source.tree.SynchronizedTree;
import com.sun.source.tree.ThrowTree;
import com.sun.source.tree.Tree;
import com.sun.source.tree.TryTree;
import com.sun.source.tree.TypeCastTree;
import com.sun.source.tree.VariableTree;
import com.sun.source.util.JavacTask;
import com.sun.source.util.TreePath;
import com.sun.source.util.TreePathScanner;
import com.sun.source.util.Trees;
import java.io.IOException;
import java.nio.file.Path;
import java.util.HashMap;
import java.util.HashSet;
import java.util.Map;
import java.util.Set;
import java.util.TreeSet;
import javax.lang.model.element.Element;
import javax.lang.model.element.ElementKind;
import javax.lang.model.element.Modifier;
import javax.lang.model.element.TypeElement;
import javax.lang.model.element.VariableElement;
import javax.lang.model.type.ArrayType;
import javax.lang.model.type.TypeKind;
import javax.lang.model.type.TypeMirror;
import javax.tools.JavaCompiler;
import javax.tools.StandardJavaFileManager;
import javax.tools.ToolProvider;

/** The source of the class keeps to ../shared/LANGUAGE.md as far as a look at it can show. */
public final class LanguageTest {
    private static final Path SOURCE = Path.of("src", "main", "java", "NamesUnder.java");
    private static final int LINES_MOST = 60;
    private static final int DEEP_MOST = 8;
    private static final Set<String> EXCEPTIONS = Set.of("java.lang.IllegalStateException",
            "java.lang.IllegalArgumentException", "java.lang.IndexOutOfBoundsException", "java.lang.ArithmeticException",
            "java.lang.UnsupportedOperationException", "java.util.NoSuchElementException", "java.lang.RuntimeException");
    /** Of what rule 4 lists, what a class may call; Integer, Long and Math have a rule of their own. */
    private static final Map<String, Set<String>> LIBRARY = Map.of(
            "java.lang.String", Set.of("length", "charAt", "isEmpty", "equals", "indexOf", "substring", "toCharArray"),
            "java.lang.StringBuilder", Set.of("append", "charAt", "setCharAt", "setLength", "deleteCharAt", "reverse",
                    "length", "toString"),
            "java.util.ArrayList", Set.of("add", "get", "set", "remove", "size", "isEmpty", "clear"),
            "java.util.List", Set.of("add", "get", "set", "remove", "size", "isEmpty", "clear", "of"),
            "java.lang.System", Set.of("arraycopy"),
            "java.util.Arrays", Set.of("copyOf", "copyOfRange", "fill"));
    private static final Set<String> NUMBERS = Set.of("java.lang.Integer", "java.lang.Long", "java.lang.Math");

    private LanguageTest() {
    }

    /** One walk over the source; keeps which method calls which. */
    private static final class Look extends TreePathScanner<Void, Void> {
        final Trees trees;
        final CompilationUnitTree unit;
        final Map<Element, Set<Element>> calls = new HashMap<>();
        final Set<Element> face = new HashSet<>();
        int classes = 0;
        Element within = null;

        Look(Trees theTrees, CompilationUnitTree theUnit) {
            trees = theTrees;
            unit = theUnit;
        }

        private long lineOf(long at) {
            return unit.getLineMap().getLineNumber(at);
        }

        private void rule(int number, String what, Tree tree, boolean kept) {
            long line = lineOf(trees.getSourcePositions().getStartPosition(unit, tree));
            Check.so("rule " + number + ", line " + line + ": " + what, kept);
        }

        private Element elementOf(Tree tree) {
            return trees.getElement(new TreePath(getCurrentPath(), tree));
        }

        private TypeMirror typeOf(Tree tree) {
            return trees.getTypeMirror(new TreePath(getCurrentPath(), tree));
        }

        private static boolean isOwn(Element element) {
            return element.toString().startsWith("NamesUnder");
        }

        @Override
        public Void visitImport(ImportTree tree, Void none) {
            String name = tree.getQualifiedIdentifier().toString();
            boolean listed = EXCEPTIONS.contains(name) || LIBRARY.containsKey(name)
                    || name.equals("java.util.Iterator") || name.equals("java.util.Iterable");
            rule(4, "import of " + name, tree, listed && !tree.isStatic());
            return null;
        }

        @Override
        public Void visitClass(ClassTree tree, Void none) {
            classes++;
            rule(2, "a class lies in a class or is the public one", tree,
                    getCurrentPath().getParentPath().getLeaf() instanceof ClassTree || classes == 1);
            return super.visitClass(tree, none);
        }

        @Override
        public Void visitBlock(BlockTree tree, Void none) {
            boolean ofClass = getCurrentPath().getParentPath().getLeaf() instanceof ClassTree;
            rule(5, "no initialiser block", tree, !ofClass);
            return super.visitBlock(tree, none);
        }

        @Override
        public Void visitMethod(MethodTree tree, Void none) {
            Element outer = within;
            within = trees.getElement(getCurrentPath());
            calls.putIfAbsent(within, new HashSet<>());
            if (within.getModifiers().contains(Modifier.PUBLIC)) {
                face.add(within);
            }
            long from = lineOf(trees.getSourcePositions().getStartPosition(unit, tree));
            long upto = lineOf(Math.max(0, trees.getSourcePositions().getEndPosition(unit, tree)));
            rule(11, tree.getName() + " takes at most seven", tree, tree.getParameters().size() <= 7);
            rule(11, tree.getName() + " is short", tree, upto - from + 1 <= LINES_MOST);
            super.visitMethod(tree, none);
            within = outer;
            return null;
        }

        @Override
        public Void visitVariable(VariableTree tree, Void none) {
            Element element = trees.getElement(getCurrentPath());
            rule(3, "type of " + tree.getName() + ": " + element.asType(), tree, isTypeLeft(element.asType()));
            if (element.getKind() == ElementKind.FIELD && element.getModifiers().contains(Modifier.STATIC)) {
                boolean constant = ((VariableElement) element).getConstantValue() != null
                        || element.asType().getKind() == TypeKind.ARRAY;
                rule(5, tree.getName() + " is a constant", tree, constant && element.getModifiers().contains(Modifier.FINAL));
            }
            return super.visitVariable(tree, none);
        }

        private boolean isTypeLeft(TypeMirror type) {
            if (type.getKind().isPrimitive()) {
                return true;
            }
            if (type.getKind() == TypeKind.ARRAY) {
                TypeMirror part = ((ArrayType) type).getComponentType();
                boolean two = part.getKind() == TypeKind.ARRAY;
                return two ? ((ArrayType) part).getComponentType().getKind().isPrimitive() : isTypeLeft(part);
            }
            String name = type.toString().replaceAll("<.*", "");
            return name.startsWith("NamesUnder") || LIBRARY.containsKey(name) && !name.equals("java.lang.System");
        }

        @Override
        public Void visitMethodInvocation(MethodInvocationTree tree, Void none) {
            Element called = elementOf(tree.getMethodSelect());
            TypeElement of = (TypeElement) called.getEnclosingElement();
            String name = called.getSimpleName().toString();
            if (isOwn(of)) {
                keepCall(called);
            } else if (!name.equals("<init>")) {
                rule(4, "call of " + of + "." + name, tree, isListed(of.toString(), name) || isCloneOfArray(tree, name));
            }
            return super.visitMethodInvocation(tree, none);
        }

        private boolean isListed(String of, String name) {
            boolean ofNumbers = NUMBERS.contains(of) && !name.endsWith("Exact") && !name.equals("random");
            return ofNumbers || LIBRARY.getOrDefault(of, Set.of()).contains(name);
        }

        private boolean isCloneOfArray(MethodInvocationTree tree, String name) {
            return name.equals("clone") && typeOf(tree).getKind() == TypeKind.ARRAY;
        }

        private void keepCall(Element called) {
            if (within != null) {
                calls.get(within).add(called);
            }
        }

        @Override
        public Void visitNewClass(NewClassTree tree, Void none) {
            Element made = trees.getElement(getCurrentPath());
            String of = made.getEnclosingElement().toString();
            boolean thrown = getCurrentPath().getParentPath().getLeaf() instanceof ThrowTree && EXCEPTIONS.contains(of);
            boolean listed = Set.of("java.lang.String", "java.lang.StringBuilder", "java.util.ArrayList").contains(of);
            rule(4, "new " + of, tree, thrown || listed || of.startsWith("NamesUnder"));
            if (of.startsWith("NamesUnder")) {
                keepCall(made);
            }
            return super.visitNewClass(tree, none);
        }

        @Override
        public Void visitThrow(ThrowTree tree, Void none) {
            boolean sound = tree.getExpression() instanceof NewClassTree made && made.getArguments().size() <= 1
                    && made.getArguments().stream().allMatch(argument -> argument instanceof LiteralTree);
            rule(6, "throws a new one with a written text", tree, sound);
            rule(6, "no throw in a constructor", tree, within.getKind() != ElementKind.CONSTRUCTOR);
            return super.visitThrow(tree, none);
        }

        @Override
        public Void visitTry(TryTree tree, Void none) {
            rule(6, "no finally, no resources", tree, tree.getFinallyBlock() == null && tree.getResources().isEmpty());
            return super.visitTry(tree, none);
        }

        @Override
        public Void visitCatch(CatchTree tree, Void none) {
            String caught = typeOf(tree.getParameter()).toString();
            boolean machines = Set.of("java.lang.RuntimeException", "java.lang.IndexOutOfBoundsException").contains(caught);
            rule(6, "catch of " + caught, tree, EXCEPTIONS.contains(caught) && !machines);
            return super.visitCatch(tree, none);
        }

        @Override
        public Void visitBinary(BinaryTree tree, Void none) {
            boolean text = isText(tree.getLeftOperand()) || isText(tree.getRightOperand());
            rule(10, "texts are not joined or compared by signs", tree, !text);
            if (tree.getKind() == Tree.Kind.DIVIDE || tree.getKind() == Tree.Kind.REMAINDER) {
                rule(7, "divides by a constant", tree, isConstant(tree.getRightOperand()));
            }
            return super.visitBinary(tree, none);
        }

        private boolean isText(ExpressionTree tree) {
            return typeOf(tree).toString().equals("java.lang.String");
        }

        /** A divisor that is no constant may be right, but wants another look. */
        private boolean isConstant(ExpressionTree tree) {
            if (tree instanceof LiteralTree literal) {
                return !Integer.valueOf(0).equals(literal.getValue());
            }
            Element element = elementOf(tree);
            return element instanceof VariableElement variable && variable.getConstantValue() instanceof Integer value
                    && value != 0;
        }

        @Override
        public Void visitCompoundAssignment(CompoundAssignmentTree tree, Void none) {
            boolean divides = tree.getKind() == Tree.Kind.DIVIDE_ASSIGNMENT || tree.getKind() == Tree.Kind.REMAINDER_ASSIGNMENT;
            rule(7, "divides by a constant", tree, !divides || isConstant(tree.getExpression()));
            rule(10, "texts are not joined by signs", tree, !isText(tree.getVariable()));
            return super.visitCompoundAssignment(tree, none);
        }

        @Override
        public Void visitTypeCast(TypeCastTree tree, Void none) {
            rule(6, "a cast of a number", tree, typeOf(tree.getType()).getKind().isPrimitive());
            return super.visitTypeCast(tree, none);
        }

        @Override
        public Void visitLiteral(LiteralTree tree, Void none) {
            boolean sound = !(tree.getValue() instanceof String text) || text.chars().allMatch(sign -> sign >= 1 && sign <= 127);
            rule(4, "signs of a constant", tree, sound);
            return null;
        }

        @Override
        public Void visitLambdaExpression(LambdaExpressionTree tree, Void none) {
            rule(2, "no lambda", tree, false);
            return null;
        }

        @Override
        public Void visitMemberReference(MemberReferenceTree tree, Void none) {
            rule(2, "no method reference", tree, false);
            return null;
        }

        @Override
        public Void visitSynchronized(SynchronizedTree tree, Void none) {
            rule(6, "no synchronized", tree, false);
            return null;
        }

        @Override
        public Void visitAssert(AssertTree tree, Void none) {
            rule(6, "no assert", tree, false);
            return null;
        }
    }

    /** How many methods stand open at most from this one on; one that calls itself counts once. */
    private static int depth(Look look, Element method, Set<Element> open) {
        int deepest = 0;
        open.add(method);
        for (Element called : look.calls.getOrDefault(method, Set.of())) {
            if (!open.contains(called)) {
                deepest = Math.max(deepest, depth(look, called, open));
            }
        }
        open.remove(method);
        return deepest + 1;
    }

    /** Methods that come back to themselves. */
    private static Set<String> recursive(Look look) {
        Set<String> names = new TreeSet<>();
        for (Element method : look.calls.keySet()) {
            Set<Element> reached = new HashSet<>();
            reach(look, method, reached);
            if (reached.contains(method)) {
                names.add(method.getSimpleName().toString());
            }
        }
        return names;
    }

    private static void reach(Look look, Element method, Set<Element> reached) {
        for (Element called : look.calls.getOrDefault(method, Set.of())) {
            if (reached.add(called)) {
                reach(look, called, reached);
            }
        }
    }

    public static void main(String[] args) throws IOException {
        JavaCompiler compiler = ToolProvider.getSystemJavaCompiler();
        try (StandardJavaFileManager files = compiler.getStandardFileManager(null, null, null)) {
            JavacTask task = (JavacTask) compiler.getTask(null, files, null, null, null, files.getJavaFileObjects(SOURCE));
            CompilationUnitTree unit = task.parse().iterator().next();
            task.analyze();
            Look look = new Look(Trees.instance(task), unit);
            look.scan(unit, null);
            Check.so("no package line", unit.getPackage() == null);
            Check.so("rule 11: at most twelve classes", look.classes <= 12);
            for (Element call : look.face) {
                int deep = depth(look, call, new HashSet<>());
                Check.so("rule 11: " + call + " goes at most eight deep, not " + deep, deep <= DEEP_MOST);
            }
            // Each of these carries its depth: the HAND or BLOCK that comes next, six at most.
            Set<String> known = Set.of("countFrom", "seekFrom", "layFrom");
            Check.so("rule 8: what calls itself: " + recursive(look), known.equals(recursive(look)));
        }
        Check.end();
    }
}
