import com.sun.source.tree.AssertTree;
import com.sun.source.tree.BinaryTree;
import com.sun.source.tree.BlockTree;
import com.sun.source.tree.ClassTree;
import com.sun.source.tree.CompilationUnitTree;
import com.sun.source.tree.CompoundAssignmentTree;
import com.sun.source.tree.DoWhileLoopTree;
import com.sun.source.tree.EnhancedForLoopTree;
import com.sun.source.tree.ExpressionTree;
import com.sun.source.tree.ForLoopTree;
import com.sun.source.tree.ImportTree;
import com.sun.source.tree.LambdaExpressionTree;
import com.sun.source.tree.LiteralTree;
import com.sun.source.tree.MemberReferenceTree;
import com.sun.source.tree.MethodInvocationTree;
import com.sun.source.tree.MethodTree;
import com.sun.source.tree.NewArrayTree;
import com.sun.source.tree.NewClassTree;
import com.sun.source.tree.SynchronizedTree;
import com.sun.source.tree.ThrowTree;
import com.sun.source.tree.Tree;
import com.sun.source.tree.TryTree;
import com.sun.source.tree.TypeCastTree;
import com.sun.source.tree.VariableTree;
import com.sun.source.tree.WhileLoopTree;
import com.sun.source.util.JavacTask;
import com.sun.source.util.TreePath;
import com.sun.source.util.TreePathScanner;
import com.sun.source.util.Trees;
import java.nio.file.Path;
import java.util.ArrayList;
import java.util.HashMap;
import java.util.HashSet;
import java.util.List;
import java.util.Map;
import java.util.Set;
import java.util.TreeMap;
import java.util.TreeSet;
import javax.lang.model.element.Element;
import javax.lang.model.element.ExecutableElement;
import javax.lang.model.element.Modifier;
import javax.lang.model.element.VariableElement;
import javax.lang.model.type.ArrayType;
import javax.lang.model.type.TypeKind;
import javax.lang.model.type.TypeMirror;
import javax.tools.JavaCompiler;
import javax.tools.StandardJavaFileManager;
import javax.tools.ToolProvider;

/**
 * The rules of LANGUAGE.md that can be seen from the tree that javac makes of the class: what LanguageTest, which looks
 * at lines, can't see, such as the type of a thing, whose method is called, and how deep calls go.
 */
public final class RulesTest {
    private static final Path PROGRAM = Path.of("src/main/java/GleanersForGaps.java");
    private static final int MOST_DEEP = 8, MOST_LINES = 60, MOST_PARAMETERS = 7, MOST_CLASSES = 12, MOST_FIELDS = 20;

    private static final Set<String> PLAIN = Set.of("int", "long", "short", "byte", "char", "boolean", "double", "float");
    private static final Set<String> NUMBERS = Set.of("int", "long", "short", "byte", "char", "double", "float");
    private static final Set<String> LIBRARY = Set.of("String.length", "String.charAt", "String.isEmpty", "String.equals",
        "String.indexOf", "String.substring", "String.toCharArray", "System.arraycopy", "Arrays.copyOf",
        "Arrays.copyOfRange", "Arrays.fill");
    private static final Set<String> COUNTING = Set.of("Integer", "Long", "Math");

    private static int wrong = 0;

    private static void must(boolean so, String what) {
        if (!so) {
            wrong++;
            System.out.println("RulesTest: " + what);
        }
    }

    public static void main(String[] args) throws Exception {
        JavaCompiler compiler = ToolProvider.getSystemJavaCompiler();
        try (StandardJavaFileManager files = compiler.getStandardFileManager(null, null, null)) {
            JavacTask task = (JavacTask) compiler.getTask(null, files, null, null, null, files.getJavaFileObjects(PROGRAM));
            Iterable<? extends CompilationUnitTree> units = task.parse();
            task.analyze();
            for (CompilationUnitTree unit : units) {
                Seen seen = new Seen(Trees.instance(task), unit);
                seen.scan(unit, null);
                must(seen.classes <= MOST_CLASSES, "rule 11: " + seen.classes + " classes");
                must(seen.calls.size() > 100, "too few methods were seen: " + seen.calls.size());
                depth(seen);
            }
        }
        System.out.println("RulesTest: " + wrong + " wrong");
        if (wrong != 0) {
            System.exit(1);
        }
    }

    // ---- rules 8 and 11: how deep calls go

    private static void depth(Seen seen) {
        Map<String, Set<String>> reached = new HashMap<>();
        for (String method : seen.calls.keySet()) {
            Set<String> behind = new HashSet<>();
            List<String> open = new ArrayList<>(seen.calls.get(method));
            while (!open.isEmpty()) {
                String next = open.remove(open.size() - 1);
                if (behind.add(next)) {
                    open.addAll(seen.calls.getOrDefault(next, Set.of()));
                }
            }
            reached.put(method, behind);
            must(!behind.contains(method) || seen.privates.contains(method), "rule 8: recursion of " + method);
        }
        for (String method : seen.calls.keySet()) {
            List<String> deepest = deepest(seen, reached, method);
            must(deepest.size() <= MOST_DEEP, "rule 11: " + String.join(" > ", deepest));
        }
    }

    /** The longest chain of calls from a method on; methods that call one another count as one. */
    private static List<String> deepest(Seen seen, Map<String, Set<String>> reached, String method) {
        Set<String> knot = new TreeSet<>(Set.of(method));
        for (String other : reached.get(method)) {
            if (reached.getOrDefault(other, Set.of()).contains(method)) {
                knot.add(other);
            }
        }
        List<String> longest = List.of();
        for (String one : knot) {
            for (String next : seen.calls.getOrDefault(one, Set.of())) {
                List<String> chain = knot.contains(next) ? List.of() : deepest(seen, reached, next);
                longest = chain.size() > longest.size() ? chain : longest;
            }
        }
        List<String> whole = new ArrayList<>(List.of(method));
        whole.addAll(longest);
        return whole;
    }

    // ---- what is seen in the tree

    private static final class Seen extends TreePathScanner<Void, Void> {
        private final Trees trees;
        private final CompilationUnitTree unit;
        final Map<String, Set<String>> calls = new TreeMap<>();
        final Set<String> privates = new HashSet<>();
        int classes = 0;
        private String method = "";

        Seen(Trees trees, CompilationUnitTree unit) {
            this.trees = trees;
            this.unit = unit;
        }

        private long line(Tree tree) {
            return unit.getLineMap().getLineNumber(trees.getSourcePositions().getStartPosition(unit, tree));
        }

        private long lastLine(Tree tree) {
            return unit.getLineMap().getLineNumber(trees.getSourcePositions().getEndPosition(unit, tree));
        }

        private void mustAt(boolean so, int rule, Tree tree, String what) {
            must(so, "rule " + rule + ", line " + line(tree) + ": " + what);
        }

        private TypeMirror typeOf(Tree tree) {
            return trees.getTypeMirror(new TreePath(getCurrentPath(), tree));
        }

        private static boolean isOwn(TypeMirror type) {
            return type.getKind() == TypeKind.DECLARED
                && (type.toString().equals("GleanersForGaps") || type.toString().startsWith("GleanersForGaps."));
        }

        private static boolean isText(TypeMirror type) {
            return type != null && type.toString().equals("java.lang.String");
        }

        private static boolean isBoxed(TypeMirror type) {
            return type != null && type.toString().equals("java.lang.Integer");
        }

        private static boolean isAllowed(TypeMirror type) {
            if (type.getKind() != TypeKind.ARRAY) {
                return type.getKind() == TypeKind.VOID || PLAIN.contains(type.toString()) || isOwn(type) || isText(type)
                    || type.toString().equals("java.lang.StringBuilder");
            }
            TypeMirror item = ((ArrayType) type).getComponentType();
            if (item.getKind() == TypeKind.ARRAY) {
                return NUMBERS.contains(((ArrayType) item).getComponentType().toString());
            }
            return PLAIN.contains(item.toString()) || isOwn(item);
        }

        @Override
        public Void visitImport(ImportTree tree, Void none) {
            mustAt(tree.getQualifiedIdentifier().toString().equals("java.util.Arrays"), 4, tree, tree.toString());
            return super.visitImport(tree, none);
        }

        @Override
        public Void visitClass(ClassTree tree, Void none) {
            classes++;
            Tree around = getCurrentPath().getParentPath().getLeaf();
            Set<Modifier> modifiers = tree.getModifiers().getFlags();
            if (around instanceof CompilationUnitTree) {
                mustAt(modifiers.equals(Set.of(Modifier.PUBLIC, Modifier.FINAL)), 1, tree, "the class is public and final");
            } else {
                mustAt(around instanceof ClassTree && modifiers.contains(Modifier.STATIC), 2, tree, "no static class of the class");
                mustAt(!modifiers.contains(Modifier.PUBLIC) && !modifiers.contains(Modifier.PROTECTED), 1, tree, "a class inside");
            }
            long fields = 0;
            for (Tree member : tree.getMembers()) {
                mustAt(!(member instanceof BlockTree), 5, member, "an initialiser block");
                if (member instanceof VariableTree field && !field.getModifiers().getFlags().contains(Modifier.STATIC)) {
                    fields++;
                }
            }
            mustAt(fields <= MOST_FIELDS, 11, tree, fields + " fields");
            String was = method;
            method = tree.getSimpleName() + ".<init>";
            calls.computeIfAbsent(method, m -> new TreeSet<>());
            super.visitClass(tree, none);
            method = was;
            return null;
        }

        @Override
        public Void visitMethod(MethodTree tree, Void none) {
            String was = method;
            Element element = trees.getElement(getCurrentPath());
            method = nameOf(element);
            calls.computeIfAbsent(method, m -> new TreeSet<>());
            if (tree.getModifiers().getFlags().contains(Modifier.PRIVATE)) {
                privates.add(method);
            }
            if (trees.getSourcePositions().getEndPosition(unit, tree) >= 0) {
                mustAt(lastLine(tree) - line(tree) < MOST_LINES, 11, tree, method + " is long");
            }
            mustAt(tree.getParameters().size() <= MOST_PARAMETERS, 11, tree, method + " has many parameters");
            mustAt(!Set.of("equals", "hashCode", "toString", "finalize", "compareTo").contains(tree.getName().toString()), 6, tree, method);
            mustAt(tree.getThrows().isEmpty(), 6, tree, method + " throws");
            mustAt(isAllowed(((ExecutableElement) element).getReturnType()), 3, tree, method + " answers another type");
            super.visitMethod(tree, none);
            method = was;
            return null;
        }

        private static String nameOf(Element method) {
            return method.getEnclosingElement().getSimpleName() + "." + method.getSimpleName();
        }

        @Override
        public Void visitVariable(VariableTree tree, Void none) {
            TypeMirror type = trees.getTypeMirror(getCurrentPath());
            mustAt(isAllowed(type), 3, tree, "a " + type);
            Element element = trees.getElement(getCurrentPath());
            if (element.getKind().isField() && element.getModifiers().contains(Modifier.STATIC)) {
                mustAt(element.getModifiers().contains(Modifier.FINAL), 5, tree, "static and not final: " + element);
                boolean isRow = Set.of("int[]", "long[]", "char[]", "byte[]").contains(type.toString())
                    && tree.getInitializer() instanceof NewArrayTree row && row.getInitializers() != null;
                boolean isPlain = Set.of("int", "long", "boolean", "char").contains(type.toString()) || isText(type);
                mustAt(isRow || isPlain, 5, tree, "a static " + type);
            }
            return super.visitVariable(tree, none);
        }

        @Override
        public Void visitMethodInvocation(MethodInvocationTree tree, Void none) {
            ExecutableElement called = (ExecutableElement) trees.getElement(getCurrentPath());
            TypeMirror owner = called.getEnclosingElement().asType();
            String name = nameOf(called);
            if (isOwn(owner)) {
                calls.get(method).add(name);
            } else if (!name.equals("Object.<init>")) {
                mustAt(LIBRARY.contains(name) || isCounting(called), 4, tree, "a call of " + name);
            }
            return super.visitMethodInvocation(tree, none);
        }

        /** A static function of Integer, Long or Math over int and long. */
        private static boolean isCounting(ExecutableElement called) {
            boolean overNumbers = isCount(called.getReturnType());
            for (VariableElement parameter : called.getParameters()) {
                overNumbers &= isCount(parameter.asType());
            }
            return overNumbers && called.getModifiers().contains(Modifier.STATIC)
                && COUNTING.contains(called.getEnclosingElement().getSimpleName().toString())
                && !called.getSimpleName().toString().endsWith("Exact");
        }

        private static boolean isCount(TypeMirror type) {
            return type.getKind() == TypeKind.INT || type.getKind() == TypeKind.LONG;
        }

        @Override
        public Void visitNewClass(NewClassTree tree, Void none) {
            TypeMirror made = trees.getTypeMirror(getCurrentPath());
            mustAt(tree.getClassBody() == null, 2, tree, "a class without a name");
            mustAt(isOwn(made), 4, tree, "a new " + made);
            calls.get(method).add(nameOf(trees.getElement(getCurrentPath())));
            mustMakeAhead(tree);
            return super.visitNewClass(tree, none);
        }

        @Override
        public Void visitNewArray(NewArrayTree tree, Void none) {
            mustMakeAhead(tree);
            return super.visitNewArray(tree, none);
        }

        // Stricter than rule 12: README.md says that no call makes an object.
        private void mustMakeAhead(Tree tree) {
            mustAt(method.endsWith(".<init>"), 12, tree, method + " makes an object");
        }

        @Override
        public Void visitBinary(BinaryTree tree, Void none) {
            TypeMirror left = typeOf(tree.getLeftOperand());
            TypeMirror right = typeOf(tree.getRightOperand());
            boolean compares = tree.getKind() == Tree.Kind.EQUAL_TO || tree.getKind() == Tree.Kind.NOT_EQUAL_TO;
            mustAt(!compares || !isText(left) && !isText(right) && !isBoxed(left) && !isBoxed(right), 6, tree, tree.toString());
            mustAt(tree.getKind() != Tree.Kind.PLUS || !isText(left) && !isText(right), 10, tree, tree.toString());
            return super.visitBinary(tree, none);
        }

        @Override
        public Void visitCompoundAssignment(CompoundAssignmentTree tree, Void none) {
            mustAt(!isText(typeOf(tree.getVariable())), 10, tree, tree.toString());
            return super.visitCompoundAssignment(tree, none);
        }

        @Override
        public Void visitTypeCast(TypeCastTree tree, Void none) {
            mustAt(typeOf(tree.getType()).getKind().isPrimitive(), 6, tree, tree.toString());
            return super.visitTypeCast(tree, none);
        }

        @Override
        public Void visitLiteral(LiteralTree tree, Void none) {
            String signs = tree.getValue() instanceof String || tree.getValue() instanceof Character ? "" + tree.getValue() : "";
            mustAt(signs.chars().allMatch(c -> c >= 1 && c <= 127), 4, tree, tree.toString());
            return super.visitLiteral(tree, none);
        }

        // ---- loops

        private void mustEnd(Tree loop, ExpressionTree condition) {
            String told = condition == null ? "" : condition.toString();
            mustAt(told.contains("<") || told.contains(">"), 9, loop, "a loop without a bound: " + told);
        }

        @Override
        public Void visitForLoop(ForLoopTree tree, Void none) {
            mustEnd(tree, tree.getCondition());
            return super.visitForLoop(tree, none);
        }

        @Override
        public Void visitWhileLoop(WhileLoopTree tree, Void none) {
            mustEnd(tree, tree.getCondition());
            return super.visitWhileLoop(tree, none);
        }

        @Override
        public Void visitDoWhileLoop(DoWhileLoopTree tree, Void none) {
            mustEnd(tree, tree.getCondition());
            return super.visitDoWhileLoop(tree, none);
        }

        @Override
        public Void visitEnhancedForLoop(EnhancedForLoopTree tree, Void none) {
            mustAt(typeOf(tree.getExpression()).getKind() == TypeKind.ARRAY, 10, tree, "for over no array");
            return super.visitEnhancedForLoop(tree, none);
        }

        // ---- what stands nowhere

        private Void nowhere(int rule, Tree tree) {
            mustAt(false, rule, tree, tree.toString());
            return null;
        }

        @Override
        public Void visitLambdaExpression(LambdaExpressionTree tree, Void none) {
            return nowhere(2, tree);
        }

        @Override
        public Void visitMemberReference(MemberReferenceTree tree, Void none) {
            return nowhere(2, tree);
        }

        @Override
        public Void visitThrow(ThrowTree tree, Void none) {
            return nowhere(6, tree);
        }

        @Override
        public Void visitTry(TryTree tree, Void none) {
            return nowhere(6, tree);
        }

        @Override
        public Void visitSynchronized(SynchronizedTree tree, Void none) {
            return nowhere(6, tree);
        }

        @Override
        public Void visitAssert(AssertTree tree, Void none) {
            return nowhere(6, tree);
        }
    }
}
