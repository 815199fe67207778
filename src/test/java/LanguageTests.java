import com.sun.source.tree.AssertTree;
import com.sun.source.tree.BinaryTree;
import com.sun.source.tree.BlockTree;
import com.sun.source.tree.ClassTree;
import com.sun.source.tree.CompilationUnitTree;
import com.sun.source.tree.DoWhileLoopTree;
import com.sun.source.tree.ExpressionTree;
import com.sun.source.tree.ForLoopTree;
import com.sun.source.tree.LambdaExpressionTree;
import com.sun.source.tree.LiteralTree;
import com.sun.source.tree.MemberReferenceTree;
import com.sun.source.tree.MethodInvocationTree;
import com.sun.source.tree.MethodTree;
import com.sun.source.tree.NewArrayTree;
import com.sun.source.tree.NewClassTree;
import com.sun.source.tree.ParenthesizedTree;
import com.sun.source.tree.SynchronizedTree;
import com.sun.source.tree.ThrowTree;
import com.sun.source.tree.Tree;
import com.sun.source.tree.TryTree;
import com.sun.source.tree.TypeCastTree;
import com.sun.source.tree.VariableTree;
import com.sun.source.tree.WhileLoopTree;
import com.sun.source.util.JavacTask;
import com.sun.source.util.SourcePositions;
import com.sun.source.util.TreePath;
import com.sun.source.util.TreePathScanner;
import com.sun.source.util.Trees;
import java.io.IOException;
import java.nio.file.Path;
import java.util.ArrayDeque;
import java.util.Deque;
import java.util.HashMap;
import java.util.HashSet;
import java.util.LinkedHashMap;
import java.util.LinkedHashSet;
import java.util.Map;
import java.util.Set;
import javax.lang.model.element.Element;
import javax.lang.model.element.ElementKind;
import javax.lang.model.element.ExecutableElement;
import javax.lang.model.element.Modifier;
import javax.lang.model.element.TypeElement;
import javax.lang.model.type.ArrayType;
import javax.lang.model.type.DeclaredType;
import javax.lang.model.type.TypeKind;
import javax.lang.model.type.TypeMirror;
import javax.tools.JavaCompiler;
import javax.tools.StandardJavaFileManager;
import javax.tools.ToolProvider;

/**
 * Those rules of ../shared/LANGUAGE.md that can be seen in the text of the class; some are looked at more
 * strictly than they are written, where the class needs no more.
 */
public final class LanguageTests {
    private static final Set<String> LIBRARY = Set.of("java.lang.String.length", "java.lang.String.charAt",
            "java.lang.String.indexOf", "java.lang.Math.max", "java.lang.Math.min", "java.lang.System.arraycopy",
            "java.util.Arrays.fill", "java.lang.Object.<init>");
    private static final Set<String> EXCEPTIONS = Set.of("IllegalStateException", "IllegalArgumentException",
            "IndexOutOfBoundsException", "ArithmeticException", "UnsupportedOperationException");
    private static final int MOST_PARAMETERS = 7;
    private static final int MOST_LINES = 60;
    private static final int MOST_DEEP = 8;
    private static final int MOST_CLASSES = 12;
    private static final int MOST_FIELDS = 20;

    private static int checks = 0;
    private static int wrong = 0;

    public static void main(String[] args) throws IOException {
        Path source = Path.of(args.length > 0 ? args[0] : "src/main/java/AttributeHouse.java");
        JavaCompiler compiler = ToolProvider.getSystemJavaCompiler();
        StandardJavaFileManager files = compiler.getStandardFileManager(null, null, null);
        JavacTask task = (JavacTask) compiler.getTask(null, files, null, null, null, files.getJavaFileObjects(source));
        CompilationUnitTree unit = task.parse().iterator().next();
        task.analyze();
        Rules rules = new Rules(Trees.instance(task), unit);
        rules.scan(unit, null);
        rules.lookAtTheWhole();
        System.out.println(checks + " checks, " + wrong + " wrong");
        if (wrong != 0 || checks < 1000) {
            System.exit(1);
        }
    }

    private static final class Rules extends TreePathScanner<Void, Void> {
        private final Trees trees;
        private final CompilationUnitTree unit;
        private final SourcePositions places;
        private final Map<Element, Set<Element>> calls = new LinkedHashMap<>();
        private final Set<String> publicNames = new HashSet<>();
        private final Set<String> privateNames = new HashSet<>();
        private int classes;

        Rules(Trees trees, CompilationUnitTree unit) {
            this.trees = trees;
            this.unit = unit;
            places = trees.getSourcePositions();
        }

        private long line(long position) {
            return unit.getLineMap().getLineNumber(position);
        }

        private void need(int rule, Tree where, boolean fine, String what) {
            checks++;
            if (!fine) {
                wrong++;
                long line = line(places.getStartPosition(unit, where));
                System.out.println("rule " + rule + ", line " + line + ": " + what);
            }
        }

        private Element element() {
            return trees.getElement(getCurrentPath());
        }

        private boolean isOwn(Element e) {
            Element outer = e;
            while (outer.getEnclosingElement().getKind() != ElementKind.PACKAGE) {
                outer = outer.getEnclosingElement();
            }
            return outer.getSimpleName().contentEquals("AttributeHouse");
        }

        private Tree methodAround() {
            for (TreePath path = getCurrentPath(); path != null; path = path.getParentPath()) {
                if (path.getLeaf() instanceof MethodTree) {
                    return path.getLeaf();
                }
            }
            return null;
        }

        /** A constructor, or what stands outside of methods and is run with it. */
        private boolean isInConstructor() {
            return !(methodAround() instanceof MethodTree m) || m.getReturnType() == null;
        }

        // Classes, fields, types

        @Override
        public Void visitClass(ClassTree tree, Void none) {
            classes++;
            Element its = element();
            boolean isOuter = its.getEnclosingElement().getKind() == ElementKind.PACKAGE;
            Set<Modifier> modifiers = its.getModifiers();
            need(1, tree, modifiers.contains(isOuter ? Modifier.PUBLIC : Modifier.PRIVATE), "who sees a class");
            need(1, tree, modifiers.contains(isOuter ? Modifier.FINAL : Modifier.STATIC), "a class's modifiers");
            need(2, tree, isOuter || its.getEnclosingElement().getKind() == ElementKind.CLASS, "a class in a method");
            int fields = 0;
            for (Tree member : tree.getMembers()) {
                need(5, member, !(member instanceof BlockTree), "a block that initialises");
                if (member instanceof VariableTree v && !v.getModifiers().getFlags().contains(Modifier.STATIC)) {
                    fields++;
                }
            }
            need(11, tree, fields <= MOST_FIELDS, fields + " fields");
            return super.visitClass(tree, none);
        }

        @Override
        public Void visitVariable(VariableTree tree, Void none) {
            Element its = element();
            need(3, tree, isAllowed(its.asType()), "type " + its.asType());
            if (its.getModifiers().contains(Modifier.STATIC)) {
                need(5, tree, its.getModifiers().contains(Modifier.FINAL), "a static field that isn't final");
                need(5, tree, !(its.asType() instanceof ArrayType), "a static array");
            }
            if (its.getKind() == ElementKind.FIELD && isOuter(its)) {
                boolean isConstant = its.getSimpleName().contentEquals("NONE");
                need(1, tree, isConstant || its.getModifiers().contains(Modifier.PRIVATE), "a field that isn't private");
            }
            return super.visitVariable(tree, none);
        }

        private boolean isAllowed(TypeMirror type) {
            if (type instanceof ArrayType array) {
                return array.getComponentType().getKind().isPrimitive();
            }
            if (type instanceof DeclaredType declared) {
                return isOwn(declared.asElement()) || type.toString().equals("java.lang.String");
            }
            return type.getKind() == TypeKind.VOID || type.getKind().isPrimitive() && type.getKind() != TypeKind.DOUBLE
                    && type.getKind() != TypeKind.FLOAT;
        }

        // Methods and calls

        @Override
        public Void visitMethod(MethodTree tree, Void none) {
            ExecutableElement its = (ExecutableElement) element();
            calls.putIfAbsent(its, new LinkedHashSet<>());
            need(3, tree, isAllowed(its.getReturnType()), "an answer of type " + its.getReturnType());
            need(11, tree, tree.getParameters().size() <= MOST_PARAMETERS, "parameters");
            need(11, tree, lines(tree) <= MOST_LINES, tree.getName() + ": " + lines(tree) + " lines");
            if (its.getKind() == ElementKind.METHOD) {
                boolean isPublic = its.getModifiers().contains(Modifier.PUBLIC);
                (isPublic ? publicNames : privateNames).add(its.getSimpleName().toString());
                boolean isSeen = isOuter(its) && !its.getModifiers().contains(Modifier.PRIVATE);
                need(1, tree, isPublic == isSeen, "who sees a method");
            }
            return super.visitMethod(tree, none);
        }

        private long lines(MethodTree tree) {
            long from = places.getStartPosition(unit, tree);
            long to = places.getEndPosition(unit, tree);
            // A constructor that isn't written has no end.
            return to < 0 ? 0 : line(to) - line(from) + 1;
        }

        private boolean isOuter(Element member) {
            return member.getEnclosingElement().getEnclosingElement().getKind() == ElementKind.PACKAGE;
        }

        @Override
        public Void visitMethodInvocation(MethodInvocationTree tree, Void none) {
            TreePath select = new TreePath(getCurrentPath(), tree.getMethodSelect());
            noteCall(tree, trees.getElement(select));
            return super.visitMethodInvocation(tree, none);
        }

        private void noteCall(Tree where, Element called) {
            if (isOwn(called)) {
                need(8, where, methodAround() != null, "a call outside of methods");
                if (methodAround() != null) {
                    Element caller = trees.getElement(trees.getPath(unit, methodAround()));
                    calls.computeIfAbsent(caller, k -> new LinkedHashSet<>()).add(called);
                }
            } else {
                TypeElement owner = (TypeElement) called.getEnclosingElement();
                String name = owner.getQualifiedName() + "." + called.getSimpleName();
                need(4, where, LIBRARY.contains(name), name);
            }
        }

        @Override
        public Void visitNewClass(NewClassTree tree, Void none) {
            need(2, tree, tree.getClassBody() == null, "an anonymous class");
            Element made = element();
            if (isOwn(made)) {
                noteCall(tree, made);
                need(12, tree, isInConstructor(), "an object made by a call");
            } else {
                Tree around = getCurrentPath().getParentPath().getLeaf();
                need(6, tree, around instanceof ThrowTree, "an object of the library");
            }
            return super.visitNewClass(tree, none);
        }

        @Override
        public Void visitNewArray(NewArrayTree tree, Void none) {
            need(12, tree, isInConstructor(), "an array made by a call");
            need(3, tree, tree.getDimensions().size() == 1, "an array of more dimensions");
            return super.visitNewArray(tree, none);
        }

        // Exceptions

        @Override
        public Void visitThrow(ThrowTree tree, Void none) {
            boolean fine = tree.getExpression() instanceof NewClassTree made
                    && EXCEPTIONS.contains(made.getIdentifier().toString())
                    && made.getArguments().stream().allMatch(a -> a.getKind() == Tree.Kind.STRING_LITERAL);
            need(6, tree, fine, "what is thrown");
            need(6, tree, !isInConstructor(), "a throw in a constructor");
            return super.visitThrow(tree, none);
        }

        // What there is none of

        private void none(int rule, Tree tree) {
            need(rule, tree, false, tree.getKind().toString());
        }

        @Override
        public Void visitTry(TryTree tree, Void none) {
            none(6, tree);
            return super.visitTry(tree, none);
        }

        @Override
        public Void visitSynchronized(SynchronizedTree tree, Void none) {
            none(6, tree);
            return super.visitSynchronized(tree, none);
        }

        @Override
        public Void visitAssert(AssertTree tree, Void none) {
            none(6, tree);
            return super.visitAssert(tree, none);
        }

        @Override
        public Void visitLambdaExpression(LambdaExpressionTree tree, Void none) {
            none(2, tree);
            return super.visitLambdaExpression(tree, none);
        }

        @Override
        public Void visitMemberReference(MemberReferenceTree tree, Void none) {
            none(2, tree);
            return super.visitMemberReference(tree, none);
        }

        @Override
        public Void visitTypeCast(TypeCastTree tree, Void none) {
            TypeMirror to = trees.getTypeMirror(new TreePath(getCurrentPath(), tree.getType()));
            need(6, tree, to.getKind().isPrimitive(), "a cast to " + to);
            return super.visitTypeCast(tree, none);
        }

        // Loops and texts

        private void needEnd(Tree loop, ExpressionTree condition) {
            ExpressionTree inner = condition instanceof ParenthesizedTree p ? p.getExpression() : condition;
            need(9, loop, inner != null && !(inner instanceof LiteralTree), "a loop without an end");
        }

        @Override
        public Void visitForLoop(ForLoopTree tree, Void none) {
            needEnd(tree, tree.getCondition());
            return super.visitForLoop(tree, none);
        }

        @Override
        public Void visitWhileLoop(WhileLoopTree tree, Void none) {
            needEnd(tree, tree.getCondition());
            return super.visitWhileLoop(tree, none);
        }

        @Override
        public Void visitDoWhileLoop(DoWhileLoopTree tree, Void none) {
            needEnd(tree, tree.getCondition());
            return super.visitDoWhileLoop(tree, none);
        }

        @Override
        public Void visitBinary(BinaryTree tree, Void none) {
            TypeMirror type = trees.getTypeMirror(getCurrentPath());
            need(10, tree, type.getKind().isPrimitive(), "texts joined by +");
            return super.visitBinary(tree, none);
        }

        // The whole

        void lookAtTheWhole() {
            need(4, unit, unit.getImports().size() == 1, "imports");
            need(1, unit, unit.getPackageName() == null, "a package");
            need(11, unit, classes <= MOST_CLASSES, classes + " classes");
            for (String name : privateNames) {
                need(1, unit, !publicNames.contains(name), "two methods named " + name);
            }
            Map<Element, Integer> depths = depths();
            for (Element method : calls.keySet()) {
                need(8, trees.getTree(method), !isRecursive(method) || takesNesting((ExecutableElement) method),
                        method + " calls itself without its depth");
                need(11, trees.getTree(method), depths.get(method) <= MOST_DEEP,
                        method + ": calls " + depths.get(method) + " deep");
            }
        }

        private static boolean takesNesting(ExecutableElement method) {
            return method.getParameters().stream().anyMatch(p -> p.getSimpleName().contentEquals("nesting"));
        }

        private boolean isRecursive(Element method) {
            Set<Element> reached = new HashSet<>();
            Deque<Element> open = new ArrayDeque<>(calls.get(method));
            while (!open.isEmpty()) {
                Element next = open.pop();
                if (reached.add(next)) {
                    open.addAll(calls.getOrDefault(next, Set.of()));
                }
            }
            return reached.contains(method);
        }

        /** How deep calls go from each method on, it among them; those that are recursion don't count. */
        private Map<Element, Integer> depths() {
            Map<Element, Integer> depths = new HashMap<>();
            boolean grew = true;
            while (grew) {
                grew = false;
                for (Element method : calls.keySet()) {
                    int deepest = 0;
                    for (Element called : calls.get(method)) {
                        deepest = Math.max(deepest, depths.getOrDefault(called, 0));
                    }
                    int depth = deepest + (isRecursive(method) ? 0 : 1);
                    grew |= !Integer.valueOf(depth).equals(depths.put(method, depth));
                }
            }
            return depths;
        }
    }
}
