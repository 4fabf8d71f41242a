import com.sun.source.tree.*;
import com.sun.source.util.*;
import java.io.IOException;
import java.nio.file.Path;
import java.util.*;
import javax.lang.model.element.*;
import javax.lang.model.type.*;
import javax.tools.*;

/** The rules of LANGUAGE.md, looked for in the class as the compiler reads it. */
public final class RulesTest {
    /** Of rule 6, 2 and 10: what the text has none of. */
    private static final Set<Tree.Kind> BANNED = EnumSet.of(Tree.Kind.THROW, Tree.Kind.TRY, Tree.Kind.CATCH,
        Tree.Kind.SYNCHRONIZED, Tree.Kind.ASSERT, Tree.Kind.LAMBDA_EXPRESSION, Tree.Kind.MEMBER_REFERENCE,
        Tree.Kind.IMPORT, Tree.Kind.PACKAGE, Tree.Kind.ANNOTATION, Tree.Kind.TYPE_PARAMETER);
    /** What the class takes of rule 4's library; more may be added as far as the rule lists it. */
    private static final Set<String> LIBRARY = Set.of("Math.abs", "Math.max", "Math.min", "Math.floorDiv",
        "Integer.bitCount");

    private static final Check check = new Check();

    public static void main(String[] args) throws IOException {
        JavaCompiler compiler = ToolProvider.getSystemJavaCompiler();
        StandardJavaFileManager files = compiler.getStandardFileManager(null, null, null);
        JavacTask task = (JavacTask) compiler.getTask(null, files, null, List.of("--release", "17", "-proc:none"), null,
            files.getJavaFileObjects(Path.of("src/main/java/ShadowSpans.java")));
        CompilationUnitTree unit = task.parse().iterator().next();
        task.analyze();
        Reading reading = new Reading(Trees.instance(task), unit);
        reading.scan(unit, null);
        check.due("one class stands in the file", unit.getTypeDecls().size(), 1);
        check.due("rule 11: some twelve classes", reading.classes <= 12);
        check.due("methods were read", reading.calls.size() > 50);
        check.due("loops were read", reading.loops > 10);
        depths(reading.calls);
        check.end("RulesTest");
    }

    /** Rules 8 and 11: no method comes back to itself, and at most eight stand open at once. */
    private static void depths(Map<String, Set<String>> calls) {
        for (String method : calls.keySet()) {
            int depth = depth(method, calls, 0);
            check.due("rules 8 and 11: " + method + " goes " + depth + " deep", depth <= 8);
        }
    }

    private static int depth(String method, Map<String, Set<String>> calls, int above) {
        int deepest = 0;
        if (above < 20) {
            for (String called : calls.getOrDefault(method, Set.of())) {
                deepest = Math.max(deepest, depth(called, calls, above + 1));
            }
        }
        return deepest + 1;
    }

    /** Goes through the whole text once, and holds each thing against the rules that speak of it. */
    private static final class Reading extends TreePathScanner<Void, Void> {
        private final Trees trees;
        private final CompilationUnitTree unit;
        private final Map<String, Set<String>> calls = new TreeMap<>();
        private String method;
        private int classes;
        private int loops;

        Reading(Trees trees, CompilationUnitTree unit) {
            this.trees = trees;
            this.unit = unit;
        }

        @Override
        public Void scan(Tree tree, Void nothing) {
            if (tree != null) {
                check.due(place(tree) + "no " + tree.getKind(), !BANNED.contains(tree.getKind()));
            }
            return super.scan(tree, nothing);
        }

        @Override
        public Void visitClass(ClassTree tree, Void nothing) {
            classes++;
            boolean outermost = getCurrentPath().getParentPath().getLeaf() == unit;
            boolean inClass = outermost || getCurrentPath().getParentPath().getLeaf() instanceof ClassTree;
            Set<Modifier> modifiers = tree.getModifiers().getFlags();
            check.due(place(tree) + "rule 2: " + tree.getSimpleName() + " is neither local nor without a name", inClass);
            check.due(place(tree) + "rule 2: " + tree.getSimpleName() + " is static",
                outermost || modifiers.contains(Modifier.STATIC));
            int fields = 0;
            for (Tree member : tree.getMembers()) {
                check.due(place(member) + "rule 5: no initialiser block", !(member instanceof BlockTree));
                fields += member instanceof VariableTree field
                    && !field.getModifiers().getFlags().contains(Modifier.STATIC) ? 1 : 0;
            }
            check.due("rule 11: " + tree.getSimpleName() + " has some twenty fields", fields <= 20);
            return super.visitClass(tree, nothing);
        }

        @Override
        public Void visitMethod(MethodTree tree, Void nothing) {
            method = name((ExecutableElement) trees.getElement(getCurrentPath()));
            calls.computeIfAbsent(method, key -> new TreeSet<>());
            long lines = line(trees.getSourcePositions().getEndPosition(unit, tree)) - line(start(tree)) + 1;
            check.due("rule 11: " + method + " has some sixty lines", lines <= 60);
            check.due("rule 11: " + method + " takes at most seven", tree.getParameters().size() <= 7);
            super.visitMethod(tree, nothing);
            method = null;
            return null;
        }

        @Override
        public Void visitVariable(VariableTree tree, Void nothing) {
            Element element = trees.getElement(getCurrentPath());
            check.due(place(tree) + "rule 3: " + element.asType() + " " + element, isAllowed(element.asType()));
            if (element.getModifiers().contains(Modifier.STATIC)) {
                check.due(place(tree) + "rule 5: " + element + " is a constant",
                    ((VariableElement) element).getConstantValue() != null);
            }
            return super.visitVariable(tree, nothing);
        }

        private static boolean isAllowed(TypeMirror type) {
            if (type instanceof ArrayType array) {
                return array.getComponentType().getKind().isPrimitive();
            }
            return type.getKind().isPrimitive() && type.getKind() != TypeKind.DOUBLE && type.getKind() != TypeKind.FLOAT
                || type.toString().startsWith("ShadowSpans.");
        }

        @Override
        public Void visitMethodInvocation(MethodInvocationTree tree, Void nothing) {
            ExecutableElement called = (ExecutableElement) trees.getElement(getCurrentPath());
            String name = name(called);
            // the only call without a text is that of Object's constructor
            if (name.startsWith("ShadowSpans.")) {
                calls.computeIfAbsent(String.valueOf(method), key -> new TreeSet<>()).add(name);
            } else if (!name.equals("java.lang.Object.<init>()")) {
                check.due(place(tree) + "rule 4: " + name,
                    LIBRARY.contains(name.replace("java.lang.", "").replaceAll("\\(.*", ""))
                        && name.matches(".*\\((int|long)(,(int|long))?\\)"));
            }
            return super.visitMethodInvocation(tree, nothing);
        }

        @Override
        public Void visitNewClass(NewClassTree tree, Void nothing) {
            check.due(place(tree) + "rule 12: objects are made with the object alone", method == null);
            return super.visitNewClass(tree, nothing);
        }

        @Override
        public Void visitNewArray(NewArrayTree tree, Void nothing) {
            check.due(place(tree) + "rule 12: arrays are made with the object alone", method == null);
            return super.visitNewArray(tree, nothing);
        }

        @Override
        public Void visitTypeCast(TypeCastTree tree, Void nothing) {
            check.due(place(tree) + "rule 6: a cast of numbers alone", tree.getType() instanceof PrimitiveTypeTree);
            return super.visitTypeCast(tree, nothing);
        }

        /** A divisor is a local name or a call, which the lines ahead of it, or the call itself, keep from 0. */
        @Override
        public Void visitBinary(BinaryTree tree, Void nothing) {
            if (tree.getKind() == Tree.Kind.DIVIDE || tree.getKind() == Tree.Kind.REMAINDER) {
                check.due(place(tree) + "rule 7: divided by " + tree.getRightOperand(),
                    Set.of("b", "length", "divisor()").contains(tree.getRightOperand().toString()));
            }
            check.due(place(tree) + "rule 10: no texts joined by +",
                !trees.getTypeMirror(getCurrentPath()).toString().equals("java.lang.String"));
            return super.visitBinary(tree, nothing);
        }

        @Override
        public Void visitForLoop(ForLoopTree tree, Void nothing) {
            loops++;
            check.due(place(tree) + "rule 9: a counter, a bound and a step",
                tree.getInitializer().size() == 1 && isBound(tree.getCondition()) && tree.getUpdate().size() == 1);
            return super.visitForLoop(tree, nothing);
        }

        @Override
        public Void visitWhileLoop(WhileLoopTree tree, Void nothing) {
            loops++;
            check.due(place(tree) + "rule 9: a counter against a bound", isBound(tree.getCondition()));
            return super.visitWhileLoop(tree, nothing);
        }

        @Override
        public Void visitDoWhileLoop(DoWhileLoopTree tree, Void nothing) {
            loops++;
            check.due(place(tree) + "rule 9: a counter against a bound", isBound(tree.getCondition()));
            return super.visitDoWhileLoop(tree, nothing);
        }

        /** Whether a loop ends once something is no longer less than something else. */
        private static boolean isBound(ExpressionTree condition) {
            if (condition instanceof ParenthesizedTree inside) {
                return isBound(inside.getExpression());
            }
            if (!(condition instanceof BinaryTree both)) {
                return false;
            }
            if (both.getKind() == Tree.Kind.CONDITIONAL_AND) {
                return isBound(both.getLeftOperand()) || isBound(both.getRightOperand());
            }
            return both.getKind() == Tree.Kind.LESS_THAN || both.getKind() == Tree.Kind.LESS_THAN_EQUAL;
        }

        private static String name(ExecutableElement element) {
            return element.getEnclosingElement() + "." + (element.getKind() == ElementKind.CONSTRUCTOR
                ? "<init>" + element.toString().replaceFirst("^[^(]*", "") : element.toString());
        }

        private long start(Tree tree) {
            return trees.getSourcePositions().getStartPosition(unit, tree);
        }

        private long line(long position) {
            return position < 0 ? 0 : unit.getLineMap().getLineNumber(position);
        }

        private String place(Tree tree) {
            return "line " + line(start(tree)) + ": ";
        }
    }
}
