import com.sun.source.tree.ArrayTypeTree;
import com.sun.source.tree.BinaryTree;
import com.sun.source.tree.ClassTree;
import com.sun.source.tree.CompilationUnitTree;
import com.sun.source.tree.ForLoopTree;
import com.sun.source.tree.ImportTree;
import com.sun.source.tree.LineMap;
import com.sun.source.tree.MethodInvocationTree;
import com.sun.source.tree.MethodTree;
import com.sun.source.tree.NewArrayTree;
import com.sun.source.tree.NewClassTree;
import com.sun.source.tree.Tree;
import com.sun.source.tree.TypeCastTree;
import com.sun.source.tree.VariableTree;
import com.sun.source.util.JavacTask;
import com.sun.source.util.TreePath;
import com.sun.source.util.TreePathScanner;
import com.sun.source.util.Trees;
import java.io.IOException;
import java.nio.file.Files;
import java.nio.file.Path;
import java.util.EnumSet;
import java.util.HashMap;
import java.util.List;
import java.util.Map;
import java.util.Set;
import java.util.TreeSet;
import javax.lang.model.element.Element;
import javax.lang.model.element.ExecutableElement;
import javax.lang.model.element.Modifier;
import javax.tools.JavaCompiler;
import javax.tools.StandardJavaFileManager;
import javax.tools.ToolProvider;

/** What of ../shared/LANGUAGE.md can be seen in OneCable.java, by the trees that the compiler makes of it. */
public final class LanguageTest {
    private static final Path PLACE = Path.of("src/main/java/OneCable.java");
    private static final int LONGEST_METHOD = 60;
    private static final int MOST_CLASSES = 12;
    private static final int MOST_FIELDS = 20;
    private static final int MOST_PARAMETERS = 7;
    private static final int DEEPEST = 8;

    /** All that the program has need of, which is less than the rules allow. */
    private static final Set<String> LIBRARY = Set.of("java.lang.String.charAt", "java.lang.String.indexOf",
        "java.lang.Math.abs", "java.lang.Math.max", "java.lang.Math.min", "java.lang.Math.floorMod",
        "java.lang.System.arraycopy", "java.util.Arrays.fill");
    private static final Set<String> TYPES = Set.of("int", "long", "byte", "char", "boolean", "int[]", "byte[]",
        "boolean[]", "java.lang.String");
    private static final Set<Tree.Kind> OUTSIDE = EnumSet.of(Tree.Kind.LAMBDA_EXPRESSION, Tree.Kind.MEMBER_REFERENCE,
        Tree.Kind.TRY, Tree.Kind.CATCH, Tree.Kind.SYNCHRONIZED, Tree.Kind.ASSERT, Tree.Kind.INSTANCE_OF,
        Tree.Kind.SWITCH_EXPRESSION, Tree.Kind.DOUBLE_LITERAL, Tree.Kind.FLOAT_LITERAL, Tree.Kind.INTERFACE,
        Tree.Kind.ENUM, Tree.Kind.RECORD, Tree.Kind.ANNOTATION, Tree.Kind.DIVIDE_ASSIGNMENT,
        Tree.Kind.REMAINDER_ASSIGNMENT);

    private static final Set<String> DIVISORS = Set.of("2", "65536L", "2147483648L", "SIDE", "size", "(told.gales + 1)");

    private final Check check = new Check();
    private final Map<String, Set<String>> calls = new HashMap<>();
    private final Set<String> face = new TreeSet<>();
    private final Set<String> own = new TreeSet<>();
    private int classes;

    public static void main(String[] args) throws IOException {
        LanguageTest test = new LanguageTest();
        String text = Files.readString(PLACE);
        for (int i = 0; i < text.length(); i++) {
            test.check.due("a sign beyond 126 at " + i, text.charAt(i) < 127, true);
        }
        test.read();
        test.check.end("LanguageTest");
    }

    private void read() throws IOException {
        JavaCompiler compiler = ToolProvider.getSystemJavaCompiler();
        try (StandardJavaFileManager files = compiler.getStandardFileManager(null, null, null)) {
            JavacTask task = (JavacTask) compiler.getTask(null, files, null, List.of("--release", "17"), null,
                files.getJavaFileObjects(PLACE));
            Iterable<? extends CompilationUnitTree> units = task.parse();
            task.analyze();
            for (CompilationUnitTree unit : units) {
                new Reader(Trees.instance(task), unit).scan(new TreePath(unit), null);
            }
        }
        check.due("classes (rule 11)", classes <= MOST_CLASSES, true);
        check.due("methods of the face", face.size(), 22);
        for (String name : own) {
            check.due("rule 1: a method of its own with a public one's name: " + name, face.contains(name), false);
        }
        depths();
    }

    /** Rules 8 and 11: methods that call one another count as one level; a level's name is its least member. */
    private void depths() {
        Map<String, Set<String>> reached = new HashMap<>();
        for (String method : calls.keySet()) {
            Set<String> all = new TreeSet<>();
            reach(method, all);
            reached.put(method, all);
        }
        Set<String> again = new TreeSet<>();
        Map<String, Integer> deep = new HashMap<>();
        for (String method : calls.keySet()) {
            if (reached.get(method).contains(method)) {
                again.add(method);
            }
            check.due("calls under " + method, depth(method, reached, deep) <= DEEPEST, true);
        }
        same("methods that recur, all with a bound on their depth", again.toString(),
            "[OneCable.Storm.lay, OneCable.Telling.takeLaw, OneCable.Telling.takePart]");
    }

    private void reach(String method, Set<String> all) {
        for (String next : calls.getOrDefault(method, Set.of())) {
            if (all.add(next)) {
                reach(next, all);
            }
        }
    }

    private int depth(String method, Map<String, Set<String>> reached, Map<String, Integer> deep) {
        Integer known = deep.get(method);
        if (known != null) {
            return known;
        }
        Set<String> ring = new TreeSet<>(Set.of(method));
        for (String other : reached.getOrDefault(method, Set.of())) {
            if (reached.getOrDefault(other, Set.of()).contains(method)) {
                ring.add(other);
            }
        }
        int most = 0;
        for (String member : ring) {
            for (String next : calls.getOrDefault(member, Set.of())) {
                if (!ring.contains(next)) {
                    most = Math.max(most, depth(next, reached, deep));
                }
            }
        }
        deep.put(method, most + 1);
        return most + 1;
    }

    private void same(String what, String got, String want) {
        check.due(what + ": " + got + " for " + want, got.equals(want), true);
    }

    /** Goes through the whole file, rule by rule at each tree. */
    private final class Reader extends TreePathScanner<Void, Void> {
        private final Trees trees;
        private final CompilationUnitTree unit;
        private final LineMap lines;
        private String method = "";
        private boolean making;

        Reader(Trees trees, CompilationUnitTree unit) {
            this.trees = trees;
            this.unit = unit;
            this.lines = unit.getLineMap();
        }

        private String at(Tree tree) {
            return " in line " + lines.getLineNumber(trees.getSourcePositions().getStartPosition(unit, tree));
        }

        @Override
        public Void scan(Tree tree, Void nothing) {
            if (tree != null) {
                check.due(tree.getKind() + at(tree), OUTSIDE.contains(tree.getKind()), false);
            }
            return super.scan(tree, nothing);
        }

        @Override
        public Void visitImport(ImportTree tree, Void nothing) {
            String name = tree.getQualifiedIdentifier().toString();
            check.due("import of " + name, Set.of("java.util.Arrays", "java.util.NoSuchElementException").contains(name), true);
            return super.visitImport(tree, nothing);
        }

        @Override
        public Void visitClass(ClassTree tree, Void nothing) {
            classes++;
            boolean outer = getCurrentPath().getParentPath().getLeaf() == unit;
            Set<Modifier> due = outer ? Set.of(Modifier.PUBLIC, Modifier.FINAL)
                : Set.of(Modifier.PRIVATE, Modifier.STATIC, Modifier.FINAL);
            check.due("class " + tree.getSimpleName(), tree.getModifiers().getFlags().equals(due), true);
            check.due("class " + tree.getSimpleName() + " extends nothing", tree.getExtendsClause() == null
                && tree.getImplementsClause().isEmpty(), true);
            int fields = 0;
            for (Tree member : tree.getMembers()) {
                boolean field = member instanceof VariableTree
                    && !((VariableTree) member).getModifiers().getFlags().contains(Modifier.STATIC);
                fields += field ? 1 : 0;
                check.due("no block in " + tree.getSimpleName(), member.getKind() == Tree.Kind.BLOCK, false);
            }
            check.due("fields of " + tree.getSimpleName(), fields <= MOST_FIELDS, true);
            return super.visitClass(tree, nothing);
        }

        @Override
        public Void visitMethod(MethodTree tree, Void nothing) {
            Element element = trees.getElement(getCurrentPath());
            boolean outer = element.getEnclosingElement().toString().equals("OneCable");
            boolean maker = tree.getReturnType() == null;
            if (!maker) {
                (outer && tree.getModifiers().getFlags().contains(Modifier.PUBLIC) ? face : own)
                    .add(tree.getName().toString());
            }
            check.due("parameters of " + tree.getName(), tree.getParameters().size() <= MOST_PARAMETERS, true);
            long first = lines.getLineNumber(trees.getSourcePositions().getStartPosition(unit, tree));
            long last = lines.getLineNumber(trees.getSourcePositions().getEndPosition(unit, tree));
            check.due("lines of " + tree.getName(), first < 0 || last - first < LONGEST_METHOD, true);
            method = element.getEnclosingElement() + "." + tree.getName();
            making = maker;
            calls.computeIfAbsent(method, name -> new TreeSet<>());
            super.visitMethod(tree, nothing);
            method = "";
            return null;
        }

        @Override
        public Void visitVariable(VariableTree tree, Void nothing) {
            Element element = trees.getElement(getCurrentPath());
            String type = element.asType().toString();
            boolean mine = type.equals("OneCable") || type.startsWith("OneCable.");
            check.due("the type " + type + at(tree), mine || TYPES.contains(type), true);
            if (tree.getModifiers().getFlags().contains(Modifier.STATIC)) {
                check.due("static is final" + at(tree), tree.getModifiers().getFlags().contains(Modifier.FINAL), true);
                check.due("static type " + type + at(tree), Set.of("int", "int[]", "java.lang.String").contains(type), true);
            }
            return super.visitVariable(tree, nothing);
        }

        @Override
        public Void visitMethodInvocation(MethodInvocationTree tree, Void nothing) {
            Element element = trees.getElement(new TreePath(getCurrentPath(), tree.getMethodSelect()));
            String name = element.getEnclosingElement() + "." + element.getSimpleName();
            if (name.startsWith("OneCable")) {
                calls.computeIfAbsent(method, key -> new TreeSet<>()).add(name);
            } else if (!name.endsWith(".<init>")) {
                check.due("the library's " + name + at(tree), LIBRARY.contains(name), true);
                for (var parameter : ((ExecutableElement) element).getParameters()) {
                    String type = parameter.asType().toString();
                    check.due("no double in " + name + at(tree), type.contains("double") || type.contains("float"), false);
                }
            }
            return super.visitMethodInvocation(tree, nothing);
        }

        @Override
        public Void visitNewClass(NewClassTree tree, Void nothing) {
            boolean thrown = getCurrentPath().getParentPath().getLeaf().getKind() == Tree.Kind.THROW;
            String name = tree.getIdentifier().toString();
            check.due("new " + name + at(tree), thrown ? name.equals("NoSuchElementException") && method.equals("OneCable.storm")
                : making || method.isEmpty(), true);
            check.due("no class without a name" + at(tree), tree.getClassBody() == null, true);
            return super.visitNewClass(tree, nothing);
        }

        @Override
        public Void visitNewArray(NewArrayTree tree, Void nothing) {
            check.due("a new array" + at(tree), making || method.isEmpty(), true);
            return super.visitNewArray(tree, nothing);
        }

        @Override
        public Void visitArrayType(ArrayTypeTree tree, Void nothing) {
            check.due("one dimension" + at(tree), tree.getType().getKind() == Tree.Kind.ARRAY_TYPE, false);
            return super.visitArrayType(tree, nothing);
        }

        @Override
        public Void visitTypeCast(TypeCastTree tree, Void nothing) {
            check.due("a cast among numbers" + at(tree), tree.getType().getKind() == Tree.Kind.PRIMITIVE_TYPE, true);
            return super.visitTypeCast(tree, nothing);
        }

        /** Rule 7: each divisor is known to be above 0. */
        @Override
        public Void visitBinary(BinaryTree tree, Void nothing) {
            if (tree.getKind() == Tree.Kind.DIVIDE || tree.getKind() == Tree.Kind.REMAINDER) {
                String divisor = tree.getRightOperand().toString();
                check.due("the divisor " + divisor + at(tree), DIVISORS.contains(divisor), true);
            }
            return super.visitBinary(tree, nothing);
        }

        /** Rule 9: the end of a loop is seen from its own lines. */
        @Override
        public Void visitForLoop(ForLoopTree tree, Void nothing) {
            check.due("a for with an end" + at(tree), tree.getCondition() != null && tree.getUpdate().size() == 1, true);
            return super.visitForLoop(tree, nothing);
        }
    }
}
