import com.sun.source.tree.BinaryTree;
import com.sun.source.tree.BlockTree;
import com.sun.source.tree.ClassTree;
import com.sun.source.tree.CompilationUnitTree;
import com.sun.source.tree.CompoundAssignmentTree;
import com.sun.source.tree.EnhancedForLoopTree;
import com.sun.source.tree.ImportTree;
import com.sun.source.tree.LineMap;
import com.sun.source.tree.LiteralTree;
import com.sun.source.tree.MethodInvocationTree;
import com.sun.source.tree.MethodTree;
import com.sun.source.tree.NewArrayTree;
import com.sun.source.tree.NewClassTree;
import com.sun.source.tree.Tree;
import com.sun.source.tree.ThrowTree;
import com.sun.source.tree.TypeCastTree;
import com.sun.source.tree.VariableTree;
import com.sun.source.util.JavacTask;
import com.sun.source.util.TreePath;
import com.sun.source.util.TreePathScanner;
import com.sun.source.util.Trees;
import java.io.IOException;
import java.nio.file.Files;
import java.nio.file.Path;
import java.util.HashMap;
import java.util.HashSet;
import java.util.List;
import java.util.Map;
import java.util.Set;
import java.util.TreeMap;
import java.util.TreeSet;
import javax.lang.model.element.Element;
import javax.lang.model.element.ElementKind;
import javax.lang.model.element.Modifier;
import javax.lang.model.element.VariableElement;
import javax.tools.JavaCompiler;
import javax.tools.StandardJavaFileManager;
import javax.tools.ToolProvider;

/** LANGUAGE.md rule by rule, as far as the compiler's tree of the program shows it; run from the project's root. */
public final class LanguageTest {
    private static final Path SOURCE = Path.of("src/main/java/DiskImageDiff.java");
    private static final Set<String> EXCEPTIONS = Set.of("IllegalStateException", "IllegalArgumentException",
        "IndexOutOfBoundsException", "NoSuchElementException");
    /** What the program takes of the library; rule 4 allows some more. */
    private static final Set<String> LIBRARY = Set.of("java.lang.Math.max", "java.lang.Math.min",
        "java.lang.System.arraycopy", "java.lang.String.length", "java.lang.String.charAt");
    private static final Set<String> TYPES = Set.of("int", "int[]", "int[][]", "boolean", "boolean[]", "java.lang.String");
    private static final Set<String> RESULTS = Set.of("int", "boolean", "double", "void");
    private static final Set<Tree.Kind> FORBIDDEN = Set.of(Tree.Kind.TRY, Tree.Kind.LAMBDA_EXPRESSION,
        Tree.Kind.MEMBER_REFERENCE, Tree.Kind.SYNCHRONIZED, Tree.Kind.ASSERT, Tree.Kind.INSTANCE_OF, Tree.Kind.RECORD,
        Tree.Kind.SWITCH_EXPRESSION, Tree.Kind.ANNOTATION, Tree.Kind.PARAMETERIZED_TYPE);

    private static CompilationUnitTree unit;
    private static Trees trees;

    public static void main(String[] args) throws IOException {
        lines();
        JavaCompiler compiler = ToolProvider.getSystemJavaCompiler();
        try (StandardJavaFileManager files = compiler.getStandardFileManager(null, null, null)) {
            JavacTask task = (JavacTask) compiler.getTask(null, files, null, List.of("-proc:none"), null,
                files.getJavaFileObjects(SOURCE.toFile()));
            unit = task.parse().iterator().next();
            task.analyze();
            trees = Trees.instance(task);
            Rules rules = new Rules();
            rules.scan(unit, null);
            rules.end();
        }
        Kit.end("LanguageTest");
    }

    private static void lines() throws IOException {
        List<String> lines = Files.readAllLines(SOURCE);
        for (int i = 0; i < lines.size(); i++) {
            rule("4, signs", i + 1, lines.get(i).matches("[ -~]*"));
            rule("width", i + 1, lines.get(i).length() <= 120);
        }
    }

    private static void rule(String rule, long line, boolean kept) {
        Kit.sameText("line " + line + " keeps rule " + rule, String.valueOf(kept), "true");
    }

    private static final class Rules extends TreePathScanner<Void, Void> {
        private final Map<String, Set<String>> calls = new TreeMap<>();
        private final Map<String, Integer> deepest = new HashMap<>();
        private final Set<String> open = new HashSet<>();
        private String method = "";
        private int classes = 0;
        private int imports = 0;

        private long line(Tree tree) {
            return unit.getLineMap().getLineNumber(trees.getSourcePositions().getStartPosition(unit, tree));
        }

        private long lastLine(Tree tree) {
            LineMap map = unit.getLineMap();
            return map.getLineNumber(trees.getSourcePositions().getEndPosition(unit, tree));
        }

        private Element element(Tree tree) {
            return trees.getElement(new TreePath(getCurrentPath(), tree));
        }

        private String type(Tree tree) {
            return String.valueOf(trees.getTypeMirror(new TreePath(getCurrentPath(), tree)));
        }

        private boolean own(String type) {
            return type.startsWith("DiskImageDiff");
        }

        @Override
        public Void scan(Tree tree, Void none) {
            if (tree != null) {
                rule("2, 3, 6 or 10, no " + tree.getKind(), tree == unit ? 1 : line(tree), !FORBIDDEN.contains(tree.getKind()));
            }
            return super.scan(tree, none);
        }

        @Override
        public Void visitImport(ImportTree tree, Void none) {
            imports++;
            rule("4, import", line(tree), tree.getQualifiedIdentifier().toString().equals("java.util.NoSuchElementException"));
            return super.visitImport(tree, none);
        }

        @Override
        public Void visitClass(ClassTree tree, Void none) {
            classes++;
            Set<Modifier> modifiers = tree.getModifiers().getFlags();
            boolean inside = getCurrentPath().getParentPath().getLeaf() != unit;
            rule("1, classes", line(tree), modifiers.contains(Modifier.PUBLIC) != inside);
            rule("2, classes", line(tree), modifiers.contains(Modifier.STATIC) == inside);
            rule("2, no heirs", line(tree), tree.getExtendsClause() == null && tree.getImplementsClause().isEmpty());
            int fields = 0;
            for (Tree member : tree.getMembers()) {
                rule("5, no static block", line(member), !(member instanceof BlockTree));
                fields += member instanceof VariableTree field && !isStatic(field) ? 1 : 0;
            }
            rule("11, fields", line(tree), fields <= 20);
            return super.visitClass(tree, none);
        }

        private boolean isStatic(VariableTree field) {
            return field.getModifiers().getFlags().contains(Modifier.STATIC);
        }

        @Override
        public Void visitMethod(MethodTree tree, Void none) {
            method = String.valueOf(trees.getElement(getCurrentPath()).getEnclosingElement()) + "." + tree.getName();
            boolean once = calls.put(method, new TreeSet<>()) == null;
            rule("1, names of methods", line(tree), once);
            rule("11, parameters", line(tree), tree.getParameters().size() <= 7);
            rule("11, length", line(tree), lastLine(tree) - line(tree) < 60);
            if (tree.getReturnType() != null) {
                String type = type(tree.getReturnType());
                rule("3, result", line(tree), RESULTS.contains(type) || own(type));
            }
            super.visitMethod(tree, none);
            method = "";
            return null;
        }

        @Override
        public Void visitVariable(VariableTree tree, Void none) {
            VariableElement variable = (VariableElement) trees.getElement(getCurrentPath());
            String type = variable.asType().toString();
            rule("3, type " + type, line(tree), TYPES.contains(type) || own(type));
            if (variable.getModifiers().contains(Modifier.STATIC)) {
                rule("5, constant", line(tree), variable.getConstantValue() != null);
            }
            boolean field = variable.getKind() == ElementKind.FIELD;
            boolean face = field && variable.getEnclosingElement().toString().equals("DiskImageDiff");
            boolean hidden = variable.getModifiers().contains(Modifier.PRIVATE);
            rule("1, face", line(tree), !face || hidden || variable.getSimpleName().contentEquals("NONE"));
            return super.visitVariable(tree, none);
        }

        @Override
        public Void visitMethodInvocation(MethodInvocationTree tree, Void none) {
            Element called = element(tree.getMethodSelect());
            String name = called.getEnclosingElement() + "." + called.getSimpleName();
            if (called.getKind() == ElementKind.METHOD) {
                if (own(name)) {
                    rule("12, no call while an object is made", line(tree), !method.isEmpty());
                    calls.getOrDefault(method, new TreeSet<>()).add(name);
                } else {
                    rule("4, " + name, line(tree), LIBRARY.contains(name));
                }
            }
            return super.visitMethodInvocation(tree, none);
        }

        @Override
        public Void visitThrow(ThrowTree tree, Void none) {
            boolean made = tree.getExpression() instanceof NewClassTree;
            rule("6, throw new", line(tree), made);
            if (made) {
                NewClassTree exception = (NewClassTree) tree.getExpression();
                rule("6, exception", line(tree), EXCEPTIONS.contains(exception.getIdentifier().toString()));
                rule("6, text", line(tree), exception.getArguments().size() == 1
                    && exception.getArguments().get(0) instanceof LiteralTree);
            }
            rule("6, no throw in a constructor", line(tree), !method.endsWith("<init>"));
            return super.visitThrow(tree, none);
        }

        @Override
        public Void visitNewClass(NewClassTree tree, Void none) {
            boolean thrown = getCurrentPath().getParentPath().getLeaf() instanceof ThrowTree;
            rule("12, objects with the differ only", line(tree), thrown || method.isEmpty() && own(type(tree)));
            rule("2, no class without a name", line(tree), tree.getClassBody() == null);
            return super.visitNewClass(tree, none);
        }

        @Override
        public Void visitNewArray(NewArrayTree tree, Void none) {
            rule("12, arrays with the differ only", line(tree), method.isEmpty());
            return super.visitNewArray(tree, none);
        }

        @Override
        public Void visitTypeCast(TypeCastTree tree, Void none) {
            Set<String> numbers = Set.of("int", "double");
            rule("6, casts of numbers", line(tree), numbers.contains(type(tree.getType())) && numbers.contains(type(tree.getExpression())));
            return super.visitTypeCast(tree, none);
        }

        @Override
        public Void visitEnhancedForLoop(EnhancedForLoopTree tree, Void none) {
            rule("9, for over an array", line(tree), type(tree.getExpression()).endsWith("[]"));
            return super.visitEnhancedForLoop(tree, none);
        }

        @Override
        public Void visitBinary(BinaryTree tree, Void none) {
            boolean texts = type(tree.getLeftOperand()).endsWith("String") || type(tree.getRightOperand()).endsWith("String");
            rule("6 and 10, no text in + and ==", line(tree), !texts);
            boolean divides = tree.getKind() == Tree.Kind.DIVIDE || tree.getKind() == Tree.Kind.REMAINDER;
            rule("7, divisor", line(tree), !divides || isSafeDivisor(tree.getRightOperand()));
            return super.visitBinary(tree, none);
        }

        @Override
        public Void visitCompoundAssignment(CompoundAssignmentTree tree, Void none) {
            boolean divides = tree.getKind() == Tree.Kind.DIVIDE_ASSIGNMENT || tree.getKind() == Tree.Kind.REMAINDER_ASSIGNMENT;
            rule("7, divisor", line(tree), !divides || isSafeDivisor(tree.getExpression()));
            return super.visitCompoundAssignment(tree, none);
        }

        /** A constant, the counter of putName's loop, which ends at 0, or a double, which never throws. */
        private boolean isSafeDivisor(Tree divisor) {
            Element element = element(divisor);
            boolean constant = element instanceof VariableElement variable && variable.getConstantValue() != null;
            return constant || divisor.toString().equals("place") || type(divisor).equals("double");
        }

        void end() {
            rule("4, one import", 1, imports == 1);
            rule("11, classes", 1, classes <= 12);
            int greatest = 0;
            for (String called : calls.keySet()) {
                greatest = Math.max(greatest, depth(called));
            }
            rule("11, calls " + greatest + " deep", 1, greatest <= 8);
            Set<String> face = new HashSet<>();
            for (String called : calls.keySet()) {
                if (called.matches("DiskImageDiff\\.[a-zA-Z]+") && !calledInside(called)) {
                    face.add(called);
                }
            }
            rule("1, the face calls nothing of the face", 1, face.size() == 33);
        }

        private boolean calledInside(String name) {
            return calls.values().stream().anyMatch(called -> called.contains(name));
        }

        /** How many calls stand open at once, from a method on; a method that stands open already is recursion. */
        private int depth(String name) {
            Integer known = deepest.get(name);
            if (known != null) {
                return known;
            }
            rule("8, no recursion in " + name, 1, open.add(name));
            int greatest = 0;
            for (String called : calls.getOrDefault(name, Set.of())) {
                if (!open.contains(called)) {
                    greatest = Math.max(greatest, depth(called));
                } else {
                    rule("8, no recursion from " + name + " to " + called, 1, false);
                }
            }
            open.remove(name);
            deepest.put(name, greatest + 1);
            return greatest + 1;
        }
    }
}
