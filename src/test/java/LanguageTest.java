import com.sun.source.tree.*;
import com.sun.source.util.JavacTask;
import com.sun.source.util.SourcePositions;
import com.sun.source.util.TreePath;
import com.sun.source.util.TreePathScanner;
import com.sun.source.util.Trees;
import java.io.IOException;
import java.nio.charset.StandardCharsets;
import java.nio.file.Files;
import java.nio.file.Path;
import java.util.HashMap;
import java.util.HashSet;
import java.util.LinkedHashMap;
import java.util.List;
import java.util.Map;
import java.util.Set;
import java.util.TreeSet;
import javax.lang.model.element.Element;
import javax.lang.model.element.ElementKind;
import javax.lang.model.element.ExecutableElement;
import javax.lang.model.element.Modifier;
import javax.lang.model.type.TypeMirror;
import javax.tools.JavaCompiler;
import javax.tools.StandardJavaFileManager;
import javax.tools.ToolProvider;

/** What can be seen of LANGUAGE.md's rules in the source itself. */
public final class LanguageTest {
    private static final Path SOURCE = Path.of("src/main/java/OneBreath.java");
    private static final Set<String> FACE = new TreeSet<>(List.of("feed", "tongue", "fault", "sound", "word", "shape",
            "behind", "ends", "spelt", "unlike", "near", "judge", "say", "line", "at", "cuts", "cut", "mistakes",
            "bound", "unsure", "unsureAt", "bears", "added", "adds", "mended", "changed", "paused", "begun", "fitted",
            "talk", "code", "said", "richest", "endless", "longest", "noise", "asked", "tree", "limb", "numbers",
            "write", "copy", "image", "restore", "count"));
    private static final Set<String> LIBRARY = Set.of("java.lang.String.length", "java.lang.String.charAt",
            "java.lang.Math.min", "java.lang.Math.max", "java.lang.Math.floorMod", "java.lang.Math.floorDiv",
            "java.lang.Integer.bitCount", "java.lang.Integer.numberOfTrailingZeros",
            "java.lang.Long.numberOfTrailingZeros", "java.lang.Long.lowestOneBit",
            "java.lang.System.arraycopy", "java.util.Arrays.fill");
    private static final int DEEPEST = 8;
    private static final int MOST_CLASSES = 12;
    private static final int MOST_FIELDS = 20;
    private static final int MOST_LINES = 60;
    private static final int MOST_PARAMETERS = 7;

    private static int wrong = 0;
    private static int looked = 0;

    private static void broken(int rule, String what) {
        wrong++;
        System.out.println("language: rule " + rule + ": " + what);
    }

    private static void check(int rule, boolean holds, String what) {
        looked++;
        if (!holds) {
            broken(rule, what);
        }
    }

    public static void main(String[] args) throws IOException {
        JavaCompiler compiler = ToolProvider.getSystemJavaCompiler();
        StandardJavaFileManager files = compiler.getStandardFileManager(null, null, StandardCharsets.UTF_8);
        JavacTask task = (JavacTask) compiler.getTask(null, files, null, List.of("-proc:none"), null,
                files.getJavaFileObjects(SOURCE));
        CompilationUnitTree unit = task.parse().iterator().next();
        task.analyze();
        check(1, unit.getPackageName() == null, "no package line");
        check(1, unit.getTypeDecls().size() == 1, "one class alone");
        for (ImportTree i : unit.getImports()) {
            check(4, i.getQualifiedIdentifier().toString().equals("java.util.Arrays"), "import " + i);
        }
        for (byte b : Files.readAllBytes(SOURCE)) {
            if (b < 0) {
                broken(4, "a sign above 127");
            }
        }
        Walk walk = new Walk(unit, Trees.instance(task));
        walk.scan(unit, null);
        check(1, walk.face.equals(FACE), "the face is " + walk.face);
        check(11, walk.classes <= MOST_CLASSES, walk.classes + " classes");
        for (Map.Entry<String, Set<String>> e : walk.calls.entrySet()) {
            int depth = walk.depth(e.getKey(), new HashSet<>());
            check(11, depth <= DEEPEST, e.getKey() + " goes " + depth + " deep");
        }
        System.out.println("language: " + looked + " looks, " + wrong + " rules broken, calls go "
                + walk.deepest + " deep");
        if (wrong != 0) {
            System.exit(1);
        }
    }

    private static final class Walk extends TreePathScanner<Void, Void> {
        final Set<String> face = new TreeSet<>();
        final Map<String, Set<String>> calls = new LinkedHashMap<>();
        private final Map<String, Integer> depths = new HashMap<>();
        int classes = 0;
        int deepest = 0;
        private final CompilationUnitTree unit;
        private final Trees trees;
        private final SourcePositions positions;
        private String method = "";

        Walk(CompilationUnitTree unit, Trees trees) {
            this.unit = unit;
            this.trees = trees;
            this.positions = trees.getSourcePositions();
        }

        /** How many calls stand open at most; recursion is counted as too deep. */
        int depth(String name, Set<String> open) {
            if (!open.add(name)) {
                return 1000;
            }
            Integer known = depths.get(name);
            if (known == null) {
                known = 1;
                for (String called : calls.getOrDefault(name, Set.of())) {
                    known = Math.max(known, 1 + depth(called, open));
                }
                depths.put(name, known);
                deepest = Math.max(deepest, known);
            }
            open.remove(name);
            return known;
        }

        private Element here() {
            return trees.getElement(getCurrentPath());
        }

        @Override
        public Void visitClass(ClassTree tree, Void v) {
            classes++;
            boolean outer = tree.getSimpleName().contentEquals("OneBreath");
            Set<Modifier> flags = tree.getModifiers().getFlags();
            if (outer) {
                check(1, flags.contains(Modifier.PUBLIC) && flags.contains(Modifier.FINAL), "public and final");
            } else {
                check(2, flags.contains(Modifier.STATIC), tree.getSimpleName() + " is static");
                check(1, !flags.contains(Modifier.PUBLIC) && !flags.contains(Modifier.PROTECTED),
                        tree.getSimpleName() + " is private or package-visible");
            }
            int fields = 0;
            for (Tree member : tree.getMembers()) {
                if (member instanceof VariableTree field) {
                    fields += field(field, outer);
                }
                check(5, !(member instanceof BlockTree), "no initialiser block");
            }
            check(11, fields <= MOST_FIELDS, tree.getSimpleName() + " has " + fields + " fields");
            return super.visitClass(tree, v);
        }

        private int field(VariableTree field, boolean outer) {
            Set<Modifier> flags = field.getModifiers().getFlags();
            boolean isFace = field.getName().contentEquals("NONE");
            if (outer && !isFace) {
                check(1, flags.contains(Modifier.PRIVATE), field.getName() + " is private");
            }
            if (flags.contains(Modifier.STATIC)) {
                check(5, flags.contains(Modifier.FINAL), field.getName() + " is final");
                check(5, Set.of("int", "long", "boolean", "char", "String").contains(field.getType().toString()),
                        field.getName() + " is of a constant's type");
                return 0;
            }
            return 1;
        }

        @Override
        public Void visitMethod(MethodTree tree, Void v) {
            Element e = here();
            String outside = method;
            method = name(e);
            calls.putIfAbsent(method, new TreeSet<>());
            boolean outer = e.getEnclosingElement().getSimpleName().contentEquals("OneBreath");
            boolean isMaker = e.getKind() == ElementKind.CONSTRUCTOR;
            if (e.getModifiers().contains(Modifier.PUBLIC) && outer && !isMaker) {
                face.add(e.getSimpleName().toString());
            } else if (!isMaker) {
                check(1, !FACE.contains(e.getSimpleName().toString()), method + " bears a public name");
                check(1, !outer || e.getModifiers().contains(Modifier.PRIVATE), method + " is private");
            }
            check(11, tree.getParameters().size() <= MOST_PARAMETERS, method + " has too many parameters");
            long from = positions.getStartPosition(unit, tree);
            long to = positions.getEndPosition(unit, tree);
            long lines = to < 0 ? 0 : unit.getLineMap().getLineNumber(to) - unit.getLineMap().getLineNumber(from) + 1;
            check(11, lines <= MOST_LINES, method + " has " + lines + " lines");
            super.visitMethod(tree, v);
            method = outside;
            return null;
        }

        private static String name(Element e) {
            return e.getEnclosingElement() + "." + e.getSimpleName();
        }

        @Override
        public Void visitMethodInvocation(MethodInvocationTree tree, Void v) {
            Element called = trees.getElement(new TreePath(getCurrentPath(), tree.getMethodSelect()));
            if (called instanceof ExecutableElement e && !e.getSimpleName().contentEquals("<init>")) {
                String name = name(e);
                if (name.startsWith("OneBreath")) {
                    calls.computeIfAbsent(method, k -> new TreeSet<>()).add(name);
                } else {
                    check(4, LIBRARY.contains(name), method + " calls " + name);
                }
            }
            return super.visitMethodInvocation(tree, v);
        }

        @Override
        public Void visitNewClass(NewClassTree tree, Void v) {
            check(12, method.endsWith("<init>") || method.isEmpty(), method + " makes an object");
            return super.visitNewClass(tree, v);
        }

        @Override
        public Void visitNewArray(NewArrayTree tree, Void v) {
            check(12, method.endsWith("<init>") || method.isEmpty(), method + " makes an array");
            return super.visitNewArray(tree, v);
        }

        @Override
        public Void visitBinary(BinaryTree tree, Void v) {
            TypeMirror type = trees.getTypeMirror(getCurrentPath());
            check(10, type == null || !type.toString().equals("java.lang.String"), "texts joined by + in " + method);
            return super.visitBinary(tree, v);
        }

        @Override
        public Void visitVariable(VariableTree tree, Void v) {
            String type = String.valueOf(tree.getType());
            check(3, type.matches("(int|long|short|byte|char|boolean)(\\[\\]){0,2}|String|"
                    + "(Sounds|Tongue)(\\[\\])?|Tape|Rows|Verdict|Cutter|Noise|Measure|Mender|Census|Twins"),
                    tree.getName() + " is a " + type);
            return super.visitVariable(tree, v);
        }

        @Override
        public Void visitThrow(ThrowTree tree, Void v) {
            broken(6, "throw in " + method);
            return super.visitThrow(tree, v);
        }

        @Override
        public Void visitTry(TryTree tree, Void v) {
            broken(6, "try in " + method);
            return super.visitTry(tree, v);
        }

        @Override
        public Void visitSynchronized(SynchronizedTree tree, Void v) {
            broken(6, "synchronized in " + method);
            return super.visitSynchronized(tree, v);
        }

        @Override
        public Void visitAssert(AssertTree tree, Void v) {
            broken(6, "assert in " + method);
            return super.visitAssert(tree, v);
        }

        @Override
        public Void visitLambdaExpression(LambdaExpressionTree tree, Void v) {
            broken(2, "a lambda in " + method);
            return super.visitLambdaExpression(tree, v);
        }

        @Override
        public Void visitMemberReference(MemberReferenceTree tree, Void v) {
            broken(2, "a method reference in " + method);
            return super.visitMemberReference(tree, v);
        }

        @Override
        public Void visitTypeCast(TypeCastTree tree, Void v) {
            check(6, tree.getType().toString().matches("int|long|short|byte|char"), "a cast to " + tree.getType());
            return super.visitTypeCast(tree, v);
        }
    }
}
