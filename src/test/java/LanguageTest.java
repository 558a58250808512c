import com.sun.source.tree.*;
import com.sun.source.util.JavacTask;
import com.sun.source.util.TreePath;
import com.sun.source.util.TreePathScanner;
import com.sun.source.util.Trees;
import java.io.File;
import java.util.ArrayList;
import java.util.HashMap;
import java.util.List;
import java.util.Map;
import java.util.Set;
import java.util.TreeMap;
import java.util.TreeSet;
import javax.lang.model.element.Element;
import javax.lang.model.element.ElementKind;
import javax.lang.model.element.Modifier;
import javax.lang.model.element.VariableElement;
import javax.tools.JavaCompiler;
import javax.tools.StandardJavaFileManager;
import javax.tools.ToolProvider;

/** The rules of ../shared/LANGUAGE.md that javac's own tree of the source (whose path is the argument) can tell. */
public final class LanguageTest {
    private static final int MOST_LINES = 60, MOST_DEEP = 8;
    private static final Set<String> LIBRARY = Set.of("java.lang.String.length", "java.lang.String.charAt",
        "java.lang.Integer.bitCount", "java.lang.Math.max", "java.lang.System.arraycopy");
    private static final Set<String> TYPES = Set.of("int", "long", "boolean", "java.lang.String");

    /** Who calls whom, by name of class and method; a method that calls itself stands in its own row. */
    private static final Map<String, Set<String>> CALLS = new TreeMap<>();
    private static final Set<String> SELF_BOUND = new TreeSet<>();

    private static String nameOf(Element method) {
        return method.getEnclosingElement() + "." + method.getSimpleName();
    }

    private static boolean isOurs(Element e) {
        for (Element at = e; at != null; at = at.getEnclosingElement()) {
            if (at.getKind().isClass() && at.getSimpleName().contentEquals("FoxGeese")) return true;
        }
        return false;
    }

    /** Looks at all that is written, method by method. */
    private static final class Reading extends TreePathScanner<Void, Void> {
        final Trees trees;
        final LineMap lines;
        String method = "";
        MethodTree body;

        Reading(Trees trees, LineMap lines) {
            this.trees = trees;
            this.lines = lines;
        }

        private String at(Tree tree) {
            long place = trees.getSourcePositions().getStartPosition(getCurrentPath().getCompilationUnit(), tree);
            return "line " + lines.getLineNumber(place) + " '" + tree.toString().split("\n")[0] + "'";
        }

        private Element element(Tree tree) {
            return trees.getElement(TreePath.getPath(getCurrentPath(), tree));
        }

        private void never(String rule, Tree tree) {
            Due.holds(rule + ": " + at(tree), false);
        }

        @Override public Void visitMethod(MethodTree tree, Void v) {
            String outer = method;
            method = nameOf(trees.getElement(getCurrentPath()));
            body = tree;
            CALLS.computeIfAbsent(method, k -> new TreeSet<>());
            Due.holds("rule 11, seven parameters: " + method, tree.getParameters().size() <= 7);
            var places = trees.getSourcePositions();
            var unit = getCurrentPath().getCompilationUnit();
            long first = lines.getLineNumber(places.getStartPosition(unit, tree));
            long last = lines.getLineNumber(Math.max(places.getStartPosition(unit, tree), places.getEndPosition(unit, tree)));
            Due.holds("rule 11, short: " + method, last - first < MOST_LINES);
            super.visitMethod(tree, v);
            method = outer;
            body = null;
            return null;
        }

        @Override public Void visitMethodInvocation(MethodInvocationTree tree, Void v) {
            Element called = element(tree.getMethodSelect());
            boolean constructor = called.getKind() == ElementKind.CONSTRUCTOR;
            if (isOurs(called)) call(called, tree);
            else if (!constructor) Due.holds("rule 4, the library: " + at(tree), LIBRARY.contains(nameOf(called)));
            return super.visitMethodInvocation(tree, v);
        }

        private void call(Element called, MethodInvocationTree tree) {
            String name = nameOf(called);
            CALLS.computeIfAbsent(method, k -> new TreeSet<>()).add(name);
            if (!name.equals(method)) return;
            Due.holds("rule 8, private and static: " + at(tree),
                called.getModifiers().containsAll(Set.of(Modifier.PRIVATE, Modifier.STATIC)));
            boolean fewer = false;
            for (Tree argument : tree.getArguments()) fewer |= argument.toString().equals("n - 1");
            Due.holds("rule 8, with less to go: " + at(tree), fewer);
            if (body.getBody().toString().contains("n <= 0")) SELF_BOUND.add(method);
        }

        @Override public Void visitNewClass(NewClassTree tree, Void v) {
            Due.holds("rule 2, no class without a name: " + at(tree), tree.getClassBody() == null);
            Element made = element(tree);
            Due.holds("rule 4, own objects alone: " + at(tree), isOurs(made));
            madeOnceOnly(tree);
            CALLS.computeIfAbsent(method, k -> new TreeSet<>()).add(nameOf(made));
            return super.visitNewClass(tree, v);
        }

        @Override public Void visitNewArray(NewArrayTree tree, Void v) {
            madeOnceOnly(tree);
            return super.visitNewArray(tree, v);
        }

        /** All calls live in one room: what is made is made with the object. */
        private void madeOnceOnly(Tree tree) {
            Due.holds("made with the object alone: " + at(tree), method.isEmpty() || method.endsWith(".<init>"));
        }

        @Override public Void visitBinary(BinaryTree tree, Void v) {
            if (tree.getKind() == Tree.Kind.DIVIDE || tree.getKind() == Tree.Kind.REMAINDER) divides(tree.getRightOperand(), tree);
            if (tree.getKind() == Tree.Kind.PLUS) {
                Due.holds("rule 10, no text by +: " + at(tree), !tree.toString().contains("\""));
            }
            return super.visitBinary(tree, v);
        }

        @Override public Void visitCompoundAssignment(CompoundAssignmentTree tree, Void v) {
            if (tree.getKind() == Tree.Kind.DIVIDE_ASSIGNMENT || tree.getKind() == Tree.Kind.REMAINDER_ASSIGNMENT) {
                divides(tree.getExpression(), tree);
            }
            return super.visitCompoundAssignment(tree, v);
        }

        /** A number as it is written, or a name that this method holds against 0. */
        private void divides(ExpressionTree divisor, Tree tree) {
            boolean safe;
            if (divisor instanceof LiteralTree number) {
                safe = ((Number) number.getValue()).longValue() != 0;
            } else {
                safe = body != null && body.getBody().toString().matches("(?s).*\\b" + divisor + " (<=|==|!=|>) 0\\b.*");
            }
            Due.holds("rule 7, a divisor is looked at: " + at(tree), safe);
        }

        @Override public Void visitVariable(VariableTree tree, Void v) {
            VariableElement variable = (VariableElement) trees.getElement(getCurrentPath());
            if (variable.getKind() == ElementKind.FIELD && variable.getModifiers().contains(Modifier.STATIC)) {
                Due.holds("rule 5, a constant: " + at(tree), variable.getConstantValue() != null
                    && variable.getModifiers().contains(Modifier.FINAL) && TYPES.contains(variable.asType().toString()));
            }
            return super.visitVariable(tree, v);
        }

        @Override public Void visitClass(ClassTree tree, Void v) {
            Element e = trees.getElement(getCurrentPath());
            boolean outer = e.getSimpleName().contentEquals("FoxGeese");
            Due.holds("rule 2, static: " + e, outer || e.getModifiers().contains(Modifier.STATIC));
            Due.holds("rule 12, nobody overrides: " + e, e.getModifiers().contains(Modifier.FINAL));
            return super.visitClass(tree, v);
        }

        @Override public Void visitBlock(BlockTree tree, Void v) {
            Due.holds("rule 5, no initialiser block", !(getCurrentPath().getParentPath().getLeaf() instanceof ClassTree));
            return super.visitBlock(tree, v);
        }

        @Override public Void visitForLoop(ForLoopTree tree, Void v) {
            Due.holds("rule 9, a counter and its bound: " + at(tree), tree.getCondition() != null && !tree.getUpdate().isEmpty());
            return super.visitForLoop(tree, v);
        }

        @Override public Void visitWhileLoop(WhileLoopTree tree, Void v) {
            boolean seen = tree.getCondition().toString().contains("at < length") && tree.getStatement().toString().contains("at++");
            Due.holds("rule 9, a counter and its bound: " + at(tree), seen);
            return super.visitWhileLoop(tree, v);
        }

        @Override public Void visitTypeCast(TypeCastTree tree, Void v) {
            Due.holds("rule 6, a cast of numbers: " + at(tree), Set.of("int", "long").contains(tree.getType().toString()));
            return super.visitTypeCast(tree, v);
        }

        @Override public Void visitPrimitiveType(PrimitiveTypeTree tree, Void v) {
            Due.holds("no fractions are needed", !Set.of("DOUBLE", "FLOAT").contains(tree.getPrimitiveTypeKind().toString()));
            return super.visitPrimitiveType(tree, v);
        }

        @Override public Void visitThrow(ThrowTree tree, Void v) { never("rule 6", tree); return null; }
        @Override public Void visitTry(TryTree tree, Void v) { never("rule 6", tree); return null; }
        @Override public Void visitAssert(AssertTree tree, Void v) { never("rule 6", tree); return null; }
        @Override public Void visitSynchronized(SynchronizedTree tree, Void v) { never("rule 6", tree); return null; }
        @Override public Void visitLambdaExpression(LambdaExpressionTree tree, Void v) { never("rule 2", tree); return null; }
        @Override public Void visitMemberReference(MemberReferenceTree tree, Void v) { never("rule 2", tree); return null; }
        @Override public Void visitImport(ImportTree tree, Void v) { never("no import is needed", tree); return null; }
    }

    /** How deep calls go from here, this one counted, those of a method to itself not; too deep, if they go round. */
    private static int depth(String method, Map<String, Integer> known, List<String> open) {
        if (open.contains(method)) return 1000;
        Integer before = known.get(method);
        if (before != null) return before;
        open.add(method);
        int deepest = 0;
        for (String called : CALLS.getOrDefault(method, Set.of())) {
            if (!called.equals(method)) deepest = Math.max(deepest, depth(called, known, open));
        }
        open.remove(method);
        known.put(method, deepest + 1);
        return deepest + 1;
    }

    private static void callsStayShallow() {
        Map<String, Integer> known = new HashMap<>();
        Set<String> called = new TreeSet<>();
        CALLS.forEach((method, others) -> {
            int deep = depth(method, known, new ArrayList<>());
            Due.holds("rule 11, eight deep: " + method + " goes " + deep, deep <= MOST_DEEP);
            if (others.contains(method)) Due.holds("rule 8, a guard on the depth: " + method, SELF_BOUND.contains(method));
            called.addAll(others);
        });
        for (String method : CALLS.keySet()) {
            boolean face = method.startsWith("FoxGeese.") && method.indexOf('.') == method.lastIndexOf('.');
            boolean makes = method.isEmpty() || method.endsWith(".<init>");
            Due.holds("somebody calls " + method, makes || face && !isPrivate(method) || called.contains(method));
        }
    }

    private static boolean isPrivate(String method) {
        for (var m : FoxGeese.class.getDeclaredMethods()) {
            if (method.equals("FoxGeese." + m.getName())) return java.lang.reflect.Modifier.isPrivate(m.getModifiers());
        }
        return false;
    }

    public static void main(String[] args) throws Exception {
        JavaCompiler javac = ToolProvider.getSystemJavaCompiler();
        try (StandardJavaFileManager files = javac.getStandardFileManager(null, null, null)) {
            JavacTask task = (JavacTask) javac.getTask(null, files, null, List.of("-proc:none"), null,
                files.getJavaFileObjects(new File(args[0])));
            for (CompilationUnitTree unit : task.parse()) {
                task.analyze();
                new Reading(Trees.instance(task), unit.getLineMap()).scan(unit, null);
            }
        }
        Due.holds("methods were read", CALLS.size() > 32);
        callsStayShallow();
        Due.end();
    }
}
