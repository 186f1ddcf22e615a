import com.sun.source.tree.*;
import com.sun.source.util.JavacTask;
import com.sun.source.util.TreePath;
import com.sun.source.util.TreePathScanner;
import com.sun.source.util.Trees;
import java.nio.file.Path;
import java.util.ArrayList;
import java.util.List;
import java.util.Map;
import java.util.Set;
import java.util.TreeMap;
import java.util.TreeSet;
import javax.lang.model.element.Element;
import javax.lang.model.element.ElementKind;
import javax.lang.model.element.Modifier;
import javax.lang.model.element.VariableElement;
import javax.lang.model.type.ArrayType;
import javax.lang.model.type.DeclaredType;
import javax.lang.model.type.TypeMirror;
import javax.tools.JavaCompiler;
import javax.tools.StandardJavaFileManager;
import javax.tools.ToolProvider;

/** The rules of LANGUAGE.md that the compiler's own tree of the class can show. */
public final class RulesTest {
    private static final Set<String> LIBRARY = Set.of("System.arraycopy", "Math.min", "Math.max",
        "Integer.bitCount", "String.length", "String.charAt");
    private static final Set<String> SELF_CALLING = Set.of("Trial.firstOfRow", "Trial.worth");
    private static final int DEEPEST = 8, LONGEST = 60, MOST_PARAMETERS = 7;
    private static int wrong = 0;
    private static int methods = 0;

    public static void main(String[] args) throws Exception {
        Path file = Path.of(args.length > 0 ? args[0] : ".", "src/main/java/ScrapedRoll.java");
        Finder finder = find(file);
        selfCalls(finder.calls);
        depth(finder.calls);
        System.out.println(methods + " methods looked at, " + wrong + " rules not kept");
        if (wrong != 0 || methods < 50) {
            System.exit(1);
        }
    }

    private static void must(boolean kept, String rule) {
        if (!kept) {
            wrong++;
            System.out.println("not kept: " + rule);
        }
    }

    private static Finder find(Path file) throws Exception {
        JavaCompiler compiler = ToolProvider.getSystemJavaCompiler();
        try (StandardJavaFileManager files = compiler.getStandardFileManager(null, null, null)) {
            JavacTask task = (JavacTask) compiler.getTask(null, files, null, List.of("-proc:none"), null,
                files.getJavaFileObjects(file));
            Finder finder = new Finder(Trees.instance(task));
            List<CompilationUnitTree> units = new ArrayList<>();
            task.parse().forEach(units::add);
            task.analyze();
            for (CompilationUnitTree unit : units) {
                finder.scan(unit, null);
            }
            return finder;
        }
    }

    /** Rule 8: only the two searches call themselves, and no methods call one another in a ring. */
    private static void selfCalls(Map<String, Set<String>> calls) {
        for (Map.Entry<String, Set<String>> from : calls.entrySet()) {
            boolean itself = from.getValue().remove(from.getKey());
            must(itself == SELF_CALLING.contains(from.getKey()), "rule 8: calls itself " + from.getKey());
        }
    }

    private static void depth(Map<String, Set<String>> calls) {
        for (String method : calls.keySet()) {
            List<String> deepest = deepest(method, calls, new ArrayList<>());
            must(deepest.size() <= DEEPEST, "rule 11: deeper than eight " + deepest);
        }
    }

    private static List<String> deepest(String method, Map<String, Set<String>> calls, List<String> open) {
        List<String> best = new ArrayList<>();
        if (open.contains(method)) {
            must(false, "rule 8: a ring " + open);
            return best;
        }
        open.add(method);
        for (String next : calls.getOrDefault(method, Set.of())) {
            List<String> below = deepest(next, calls, open);
            best = below.size() > best.size() ? below : best;
        }
        open.remove(open.size() - 1);
        best = new ArrayList<>(best);
        best.add(0, method);
        return best;
    }

    private static final class Finder extends TreePathScanner<Void, Void> {
        final Map<String, Set<String>> calls = new TreeMap<>();
        private final Trees trees;
        private String inside = "";

        Finder(Trees trees) {
            this.trees = trees;
        }

        private Element meant() {
            return trees.getElement(getCurrentPath());
        }

        private long line(long at) {
            return getCurrentPath().getCompilationUnit().getLineMap().getLineNumber(at);
        }

        private String here() {
            CompilationUnitTree unit = getCurrentPath().getCompilationUnit();
            long at = trees.getSourcePositions().getStartPosition(unit, getCurrentPath().getLeaf());
            return " in line " + (at < 0 ? "?" : "" + line(at));
        }

        private static String nameOf(Element method) {
            return method.getEnclosingElement().getSimpleName() + "." + method.getSimpleName();
        }

        private static boolean isOwn(Element e) {
            for (Element at = e; at != null; at = at.getEnclosingElement()) {
                if (at.getSimpleName().contentEquals("ScrapedRoll")) {
                    return true;
                }
            }
            return false;
        }

        @Override
        public Void visitMethod(MethodTree m, Void v) {
            methods++;
            inside = nameOf(meant());
            must(calls.put(inside, new TreeSet<>()) == null, "two methods of one name " + inside);
            CompilationUnitTree unit = getCurrentPath().getCompilationUnit();
            long from = trees.getSourcePositions().getStartPosition(unit, m);
            long to = trees.getSourcePositions().getEndPosition(unit, m);
            must(from < 0 || to < 0 || line(to) - line(from) < LONGEST, "rule 11: too long " + inside);
            must(m.getParameters().size() <= MOST_PARAMETERS, "rule 11: seven parameters " + inside);
            must(m.getThrows().isEmpty() && m.getTypeParameters().isEmpty(), "rules 2, 6: " + inside);
            return super.visitMethod(m, v);
        }

        @Override
        public Void visitMethodInvocation(MethodInvocationTree call, Void v) {
            Element method = meant();
            String name = nameOf(method);
            boolean constructs = method.getKind() == ElementKind.CONSTRUCTOR;
            must(isOwn(method) || constructs || LIBRARY.contains(name), "rule 4: " + name + here());
            if (isOwn(method)) {
                must(!method.getModifiers().contains(Modifier.PUBLIC) || inside.equals("ScrapedRoll.digest"),
                    "a public method is asked from inside: " + name + here());
                calls.computeIfAbsent(inside, k -> new TreeSet<>()).add(name);
            }
            return super.visitMethodInvocation(call, v);
        }

        @Override
        public Void visitVariable(VariableTree variable, Void v) {
            Element e = meant();
            must(isAllowed(e.asType(), 0), "rule 3: " + e.asType() + " " + e + here());
            boolean shared = e.getModifiers().contains(Modifier.STATIC);
            must(!shared || e.getModifiers().contains(Modifier.FINAL), "rule 5: " + e);
            must(!shared || e.asType().getKind().isPrimitive(), "rule 5: " + e);
            return super.visitVariable(variable, v);
        }

        private static boolean isAllowed(TypeMirror type, int arrays) {
            if (type instanceof ArrayType array) {
                return arrays == 0 && isAllowed(array.getComponentType(), 1);
            }
            if (type instanceof DeclaredType declared) {
                Element e = declared.asElement();
                return isOwn(e) || e.toString().equals("java.lang.String");
            }
            return Set.of("int", "long", "boolean", "byte").contains(type.toString());
        }

        /** Rule 7: a divisor is a constant above 0, or one of those that were looked at before. */
        @Override
        public Void visitBinary(BinaryTree b, Void v) {
            if (b.getKind() == Tree.Kind.DIVIDE || b.getKind() == Tree.Kind.REMAINDER) {
                boolean known = inside.equals("ScrapedRoll.keepFraction") || isAboveZero(b.getRightOperand());
                must(known, "rule 7: a divisor " + b + here());
            }
            if (b.getKind() == Tree.Kind.EQUAL_TO || b.getKind() == Tree.Kind.NOT_EQUAL_TO) {
                TypeMirror left = trees.getTypeMirror(new TreePath(getCurrentPath(), b.getLeftOperand()));
                must(!left.toString().equals("java.lang.String"), "rule 6: texts " + b + here());
            }
            return super.visitBinary(b, v);
        }

        private boolean isAboveZero(ExpressionTree divisor) {
            if (divisor instanceof LiteralTree literal) {
                return literal.getValue() instanceof Number n && n.longValue() > 0;
            }
            Element e = trees.getElement(new TreePath(getCurrentPath(), divisor));
            return e instanceof VariableElement constant
                && constant.getConstantValue() instanceof Number n && n.longValue() > 0;
        }

        /** Rules 2, 7 and 12: objects are made as a roll is made, or as an image is first kept. */
        @Override
        public Void visitNewClass(NewClassTree made, Void v) {
            must(made.getClassBody() == null, "rule 2: no class without a name" + here());
            must(isFieldsFirst() || inside.equals("ScrapedRoll.image"), "made by a call" + here());
            return super.visitNewClass(made, v);
        }

        @Override
        public Void visitNewArray(NewArrayTree made, Void v) {
            must(made.getDimensions().size() == 1 && isFieldsFirst(), "a row is made by a call" + here());
            return super.visitNewArray(made, v);
        }

        private boolean isFieldsFirst() {
            Tree around = getCurrentPath().getParentPath().getLeaf();
            Tree further = getCurrentPath().getParentPath().getParentPath().getLeaf();
            return around instanceof VariableTree && further instanceof ClassTree;
        }

        /** Rule 9: each while loop compares with a bound in its own condition. */
        @Override
        public Void visitWhileLoop(WhileLoopTree loop, Void v) {
            must(loop.getCondition().toString().matches("\\((next < size|items <= MOST_BYTES) && .*\\)"),
                "rule 9: " + loop.getCondition() + here());
            return super.visitWhileLoop(loop, v);
        }

        @Override
        public Void visitForLoop(ForLoopTree loop, Void v) {
            boolean bounded = loop.getCondition() != null && loop.getUpdate().size() == 1
                && loop.getCondition().toString().contains("<") && loop.getUpdate().get(0).toString().matches("\\w+\\+\\+;?");
            must(bounded, "rule 9: " + loop.getCondition() + here());
            return super.visitForLoop(loop, v);
        }

        @Override
        public Void visitLambdaExpression(LambdaExpressionTree t, Void v) {
            must(false, "rule 2: a lambda" + here());
            return super.visitLambdaExpression(t, v);
        }

        @Override
        public Void visitMemberReference(MemberReferenceTree t, Void v) {
            must(false, "rule 2: a method's reference" + here());
            return super.visitMemberReference(t, v);
        }

        @Override
        public Void visitThrow(ThrowTree t, Void v) {
            must(false, "rule 6: throw" + here());
            return super.visitThrow(t, v);
        }

        @Override
        public Void visitTry(TryTree t, Void v) {
            must(false, "rule 6: try" + here());
            return super.visitTry(t, v);
        }

        @Override
        public Void visitTypeCast(TypeCastTree cast, Void v) {
            must(cast.getType() instanceof PrimitiveTypeTree, "rule 6: a cast " + cast + here());
            return super.visitTypeCast(cast, v);
        }
    }
}
