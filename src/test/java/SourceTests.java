import com.sun.source.tree.AssertTree;
import com.sun.source.tree.ClassTree;
import com.sun.source.tree.CompilationUnitTree;
import com.sun.source.tree.DoWhileLoopTree;
import com.sun.source.tree.LambdaExpressionTree;
import com.sun.source.tree.MemberReferenceTree;
import com.sun.source.tree.MethodInvocationTree;
import com.sun.source.tree.MethodTree;
import com.sun.source.tree.NewArrayTree;
import com.sun.source.tree.NewClassTree;
import com.sun.source.tree.SynchronizedTree;
import com.sun.source.tree.ThrowTree;
import com.sun.source.tree.Tree;
import com.sun.source.tree.TryTree;
import com.sun.source.tree.VariableTree;
import com.sun.source.tree.WhileLoopTree;
import com.sun.source.util.JavacTask;
import com.sun.source.util.SourcePositions;
import com.sun.source.util.TreePathScanner;
import com.sun.source.util.Trees;
import java.io.IOException;
import java.nio.charset.StandardCharsets;
import java.nio.file.Files;
import java.nio.file.Path;
import java.util.HashSet;
import java.util.List;
import java.util.Map;
import java.util.Set;
import java.util.TreeMap;
import java.util.TreeSet;
import javax.lang.model.element.Element;
import javax.lang.model.element.ElementKind;
import javax.lang.model.element.Modifier;
import javax.tools.JavaCompiler;
import javax.tools.StandardJavaFileManager;
import javax.tools.ToolProvider;

/** Rules of LANGUAGE.md that can be seen in the source itself. */
final class SourceTests {
    private static final int CLASSES = 12;
    private static final int FIELDS = 20;
    private static final int LINES = 60;
    private static final int PARAMETERS = 7;
    private static final int DEPTH = 8;
    private static final Set<String> LIBRARY = Set.of(
        "java.lang.Math.floorMod", "java.lang.Math.min", "java.lang.Math.max", "java.lang.Integer.bitCount",
        "java.util.Arrays.fill", "java.lang.System.arraycopy");
    private static final Set<String> FACE = Set.of("sign", "end", "rules", "line", "rule", "at", "sheet", "cut",
        "token", "modes", "holds", "stuck", "by", "like", "moded", "readers", "read", "twice", "longest", "matches",
        "stands", "states", "shortest", "idle", "overlap", "ways", "fewest", "touched", "same", "becomes", "comes",
        "goes", "mends", "day", "undo", "years", "keep", "again", "count", "row");

    private SourceTests() {
    }

    static void source(String[] args) {
        Path path = Path.of(args.length > 0 ? args[0] : "src/main/java/LongestTokens.java");
        try {
            signs(Files.readString(path, StandardCharsets.ISO_8859_1));
            trees(path);
        } catch (IOException e) {
            Check.fail("the source can't be read: " + e);
        }
    }

    private static void signs(String source) {
        for (int i = 0; i < source.length(); i++) {
            char c = source.charAt(i);
            if (c > 126 || (c < 32 && c != '\n')) {
                Check.fail("sign " + (int) c + " in the source");
            }
        }
        Check.due("a package line", source.startsWith("package") || source.contains("\npackage"), false);
    }

    private static void trees(Path path) throws IOException {
        JavaCompiler compiler = ToolProvider.getSystemJavaCompiler();
        try (StandardJavaFileManager files = compiler.getStandardFileManager(null, null, StandardCharsets.UTF_8)) {
            JavacTask task = (JavacTask) compiler.getTask(null, files, null, List.of("-proc:none"), null,
                files.getJavaFileObjects(path.toFile()));
            Scanner scanner = new Scanner(Trees.instance(task));
            Iterable<? extends CompilationUnitTree> units = task.parse();
            task.analyze();
            for (CompilationUnitTree unit : units) {
                scanner.unit = unit;
                scanner.scan(unit, null);
            }
            scanner.finish();
        }
    }

    private static final class Scanner extends TreePathScanner<Void, Void> {
        private final Trees trees;
        private final Map<String, Set<String>> calls = new TreeMap<>();
        private final Set<String> face = new TreeSet<>();
        private CompilationUnitTree unit;
        private String method = "";
        private boolean isConstructor;
        private int classes;

        Scanner(Trees trees) {
            this.trees = trees;
        }

        private long lineOf(Tree tree, boolean isEnd) {
            SourcePositions places = trees.getSourcePositions();
            long at = isEnd ? places.getEndPosition(unit, tree) : places.getStartPosition(unit, tree);
            return unit.getLineMap().getLineNumber(at);
        }

        private void fault(Tree tree, String what) {
            Check.fail("line " + lineOf(tree, false) + ": " + what);
        }

        private static String nameOf(Element e) {
            return e.getEnclosingElement() + "." + e;
        }

        @Override
        public Void visitClass(ClassTree tree, Void none) {
            classes++;
            Element e = trees.getElement(getCurrentPath());
            boolean isOuter = e.getEnclosingElement().getKind() == ElementKind.PACKAGE;
            int fields = 0;
            for (Tree member : tree.getMembers()) {
                if (member instanceof VariableTree field) {
                    Set<Modifier> flags = field.getModifiers().getFlags();
                    boolean isStatic = flags.contains(Modifier.STATIC);
                    fields += isStatic ? 0 : 1;
                    if (isStatic && !flags.contains(Modifier.FINAL)) {
                        fault(field, "a static field that is not final");
                    }
                    if (isOuter && !flags.contains(Modifier.PRIVATE) && !field.getName().contentEquals("NONE")) {
                        fault(field, "a field of the face");
                    }
                }
            }
            if (fields > FIELDS) {
                fault(tree, fields + " fields");
            }
            if (!isOuter && !tree.getModifiers().getFlags().contains(Modifier.STATIC)) {
                fault(tree, "a class inside that is not static");
            }
            return super.visitClass(tree, none);
        }

        @Override
        public Void visitMethod(MethodTree tree, Void none) {
            Element e = trees.getElement(getCurrentPath());
            String name = tree.getName().toString();
            boolean isPublic = tree.getModifiers().getFlags().contains(Modifier.PUBLIC);
            isConstructor = e.getKind() == ElementKind.CONSTRUCTOR;
            method = nameOf(e);
            calls.computeIfAbsent(method, key -> new HashSet<>());
            if (isPublic && !isConstructor) {
                face.add(name);
            }
            if (!isPublic && FACE.contains(name)) {
                fault(tree, name + " bears the name of a public method");
            }
            if (tree.getParameters().size() > PARAMETERS) {
                fault(tree, name + " has too many parameters");
            }
            if (lineOf(tree, true) - lineOf(tree, false) >= LINES) {
                fault(tree, name + " is too long");
            }
            super.visitMethod(tree, none);
            method = "";
            isConstructor = false;
            return null;
        }

        @Override
        public Void visitMethodInvocation(MethodInvocationTree tree, Void none) {
            Element e = trees.getElement(getCurrentPath());
            String whole = nameOf(e);
            String called = e.getEnclosingElement() + "." + e.getSimpleName();
            if (called.startsWith("java")) {
                if (!LIBRARY.contains(called) && !called.startsWith("java.lang.Object.<init>")) {
                    fault(tree, called + " is not of the library that is left");
                }
            } else {
                calls.computeIfAbsent(method, key -> new HashSet<>()).add(whole);
            }
            return super.visitMethodInvocation(tree, none);
        }

        @Override
        public Void visitNewArray(NewArrayTree tree, Void none) {
            if (!method.isEmpty()) {
                fault(tree, "an array that is made by a method, not with its object");
            }
            return super.visitNewArray(tree, none);
        }

        @Override
        public Void visitNewClass(NewClassTree tree, Void none) {
            String made = tree.getIdentifier().toString();
            boolean isThrown = getCurrentPath().getParentPath().getLeaf() instanceof ThrowTree;
            if (isThrown ? !made.equals("NoSuchElementException") : !method.isEmpty() && !made.equals("Book")) {
                fault(tree, "new " + made);
            }
            return super.visitNewClass(tree, none);
        }

        @Override
        public Void visitThrow(ThrowTree tree, Void none) {
            if (isConstructor) {
                fault(tree, "throw in a constructor");
            }
            return super.visitThrow(tree, none);
        }

        @Override
        public Void visitTry(TryTree tree, Void none) {
            fault(tree, "try");
            return super.visitTry(tree, none);
        }

        @Override
        public Void visitLambdaExpression(LambdaExpressionTree tree, Void none) {
            fault(tree, "a lambda");
            return super.visitLambdaExpression(tree, none);
        }

        @Override
        public Void visitMemberReference(MemberReferenceTree tree, Void none) {
            fault(tree, "a method reference");
            return super.visitMemberReference(tree, none);
        }

        @Override
        public Void visitSynchronized(SynchronizedTree tree, Void none) {
            fault(tree, "synchronized");
            return super.visitSynchronized(tree, none);
        }

        @Override
        public Void visitAssert(AssertTree tree, Void none) {
            fault(tree, "assert");
            return super.visitAssert(tree, none);
        }

        @Override
        public Void visitWhileLoop(WhileLoopTree tree, Void none) {
            fault(tree, "a loop without a counter");
            return super.visitWhileLoop(tree, none);
        }

        @Override
        public Void visitDoWhileLoop(DoWhileLoopTree tree, Void none) {
            fault(tree, "a loop without a counter");
            return super.visitDoWhileLoop(tree, none);
        }

        void finish() {
            Check.due("classes", Math.min(classes, CLASSES), classes);
            if (!face.equals(FACE)) {
                Check.fail("the face is " + face);
            }
            for (String name : calls.keySet()) {
                int depth = depthOf(name, new HashSet<>());
                if (depth > DEPTH) {
                    Check.fail(name + " goes " + depth + " calls deep");
                }
            }
        }

        private int depthOf(String name, Set<String> open) {
            if (!open.add(name)) {
                Check.fail("recursion in " + name);
                return 0;
            }
            int deepest = 0;
            for (String called : calls.getOrDefault(name, Set.of())) {
                deepest = Math.max(deepest, depthOf(called, open));
            }
            open.remove(name);
            return deepest + 1;
        }
    }
}
