import com.sun.source.tree.AnnotationTree;
import com.sun.source.tree.AssertTree;
import com.sun.source.tree.BinaryTree;
import com.sun.source.tree.ClassTree;
import com.sun.source.tree.CompilationUnitTree;
import com.sun.source.tree.ImportTree;
import com.sun.source.tree.LambdaExpressionTree;
import com.sun.source.tree.MemberReferenceTree;
import com.sun.source.tree.MethodInvocationTree;
import com.sun.source.tree.MethodTree;
import com.sun.source.tree.NewClassTree;
import com.sun.source.tree.SynchronizedTree;
import com.sun.source.tree.ThrowTree;
import com.sun.source.tree.Tree;
import com.sun.source.tree.TryTree;
import com.sun.source.tree.VariableTree;
import com.sun.source.util.JavacTask;
import com.sun.source.util.SourcePositions;
import com.sun.source.util.TreePathScanner;
import com.sun.source.util.Trees;
import java.io.File;
import java.util.ArrayList;
import java.util.HashMap;
import java.util.List;
import java.util.Map;
import java.util.Set;
import java.util.TreeMap;
import java.util.TreeSet;
import javax.lang.model.element.ExecutableElement;
import javax.lang.model.element.Modifier;
import javax.lang.model.type.TypeKind;
import javax.tools.JavaCompiler;
import javax.tools.StandardJavaFileManager;
import javax.tools.ToolProvider;

/** The rules of LANGUAGE.md that can be seen in the source, looked at with the compiler's own eyes. */
public final class LanguageTest {
    private static final Set<String> LIBRARY = Set.of("java.lang.Object.<init>", "java.util.Arrays.fill",
        "java.lang.System.arraycopy", "java.lang.Integer.bitCount", "java.lang.Math.min", "java.lang.Math.max",
        "java.util.NoSuchElementException.<init>");
    private static final String FACE = "feed(int,int,int,int,int):int end(int):boolean fault(int):int text(int):int "
        + "rule(int,int):int letter(int,int):int sign(int,int):int name(int,int):int trees(int,int,int):int "
        + "names(int):int toggle(int):int prefer(int):int undo():int states(int):int "
        + "look(int,int,int,int,boolean):int state(int,int,int):int goesTo(int,int,int):int "
        + "action(int,int,int,boolean):int bridge(int,int,int,int):int counts(int,int):int path(int,int,int):int "
        + "reads(int,int,int,int):int reduced(int,int,int,int):int expects(int,int):int mends(int,int):int "
        + "tree(int,int,int,int):int sorts():int same(int,int,int):int word(long,int):int keep(long):int "
        + "image():int back():int count(int):int";
    private static final int LINES_MOST = 60;
    private static final int DEPTH_MOST = 8;
    private static final int FIELDS_MOST = 20;
    private static final int CLASSES_MOST = 12;
    private static int wrong = 0;

    private static void fault(int rule, String what) {
        wrong++;
        System.out.println("rule " + rule + ": " + what);
    }

    private static final class Look extends TreePathScanner<Void, Void> {
        final Trees trees;
        final CompilationUnitTree unit;
        final Map<String, Set<String>> calls = new HashMap<>();
        final Set<String> faceMethods = new TreeSet<>();
        final Set<String> otherMethods = new TreeSet<>();
        final Map<String, Integer> fields = new TreeMap<>();
        int classes;
        String method;

        Look(Trees trees, CompilationUnitTree unit) {
            this.trees = trees;
            this.unit = unit;
        }

        private long lines(Tree tree) {
            SourcePositions at = trees.getSourcePositions();
            return unit.getLineMap().getLineNumber(at.getEndPosition(unit, tree))
                - unit.getLineMap().getLineNumber(at.getStartPosition(unit, tree)) + 1;
        }

        @Override
        public Void visitImport(ImportTree tree, Void v) {
            String name = tree.getQualifiedIdentifier().toString();
            if (!Set.of("java.util.Arrays", "java.util.NoSuchElementException").contains(name)) {
                fault(4, "import " + name);
            }
            return super.visitImport(tree, v);
        }

        @Override
        public Void visitClass(ClassTree tree, Void v) {
            classes++;
            Set<Modifier> flags = tree.getModifiers().getFlags();
            boolean outer = tree.getSimpleName().contentEquals("MinimalTables");
            if (outer && !(flags.contains(Modifier.PUBLIC) && flags.contains(Modifier.FINAL))) {
                fault(1, "the class is not public and final");
            }
            if (!outer && !flags.contains(Modifier.STATIC)) {
                fault(2, tree.getSimpleName() + " is not static");
            }
            if (getCurrentPath().getParentPath().getLeaf() instanceof MethodTree) {
                fault(2, tree.getSimpleName() + " is local");
            }
            return super.visitClass(tree, v);
        }

        @Override
        public Void visitVariable(VariableTree tree, Void v) {
            Tree parent = getCurrentPath().getParentPath().getLeaf();
            if (parent instanceof ClassTree) {
                String owner = ((ClassTree) parent).getSimpleName().toString();
                Set<Modifier> flags = tree.getModifiers().getFlags();
                if (flags.contains(Modifier.STATIC)) {
                    if (!flags.contains(Modifier.FINAL)) {
                        fault(5, tree.getName() + " is static and not final");
                    }
                } else {
                    fields.merge(owner, 1, Integer::sum);
                }
                boolean told = Set.of("NONE", "HIDDEN").contains(tree.getName().toString());
                if (owner.equals("MinimalTables") && flags.contains(Modifier.PRIVATE) == told) {
                    fault(1, "field " + tree.getName());
                }
            }
            return super.visitVariable(tree, v);
        }

        @Override
        public Void visitMethod(MethodTree tree, Void v) {
            ExecutableElement e = (ExecutableElement) trees.getElement(getCurrentPath());
            String owner = e.getEnclosingElement().getSimpleName().toString();
            String old = method;
            method = owner + "." + tree.getName();
            if (calls.put(method, new TreeSet<>()) != null) {
                fault(11, method + " stands twice, so this test cannot tell how deep calls go");
            }
            if (owner.equals("MinimalTables") && !e.getModifiers().contains(Modifier.PRIVATE)) {
                if (!tree.getName().contentEquals("<init>")) {
                    List<String> types = new ArrayList<>();
                    e.getParameters().forEach(p -> types.add(p.asType().toString()));
                    faceMethods.add(tree.getName() + "(" + String.join(",", types) + "):" + e.getReturnType());
                }
                if (!e.getModifiers().contains(Modifier.PUBLIC)) {
                    fault(1, method + " can be seen");
                }
            } else {
                otherMethods.add(tree.getName().toString());
            }
            if (tree.getParameters().size() > 7) {
                fault(11, method + " has too many parameters");
            }
            if (lines(tree) > LINES_MOST) {
                fault(11, method + " has " + lines(tree) + " lines");
            }
            super.visitMethod(tree, v);
            method = old;
            return null;
        }

        private void call(ExecutableElement e) {
            String owner = e.getEnclosingElement().toString();
            if (owner.equals("MinimalTables") || owner.startsWith("MinimalTables.")) {
                if (method != null) {
                    calls.get(method).add(e.getEnclosingElement().getSimpleName() + "." + e.getSimpleName());
                }
            } else if (!LIBRARY.contains(owner + "." + e.getSimpleName())) {
                fault(4, owner + "." + e.getSimpleName());
            }
        }

        @Override
        public Void visitMethodInvocation(MethodInvocationTree tree, Void v) {
            call((ExecutableElement) trees.getElement(getCurrentPath()));
            return super.visitMethodInvocation(tree, v);
        }

        @Override
        public Void visitNewClass(NewClassTree tree, Void v) {
            call((ExecutableElement) trees.getElement(getCurrentPath()));
            return super.visitNewClass(tree, v);
        }

        @Override
        public Void visitBinary(BinaryTree tree, Void v) {
            TypeKind kind = trees.getTypeMirror(getCurrentPath()).getKind();
            if (tree.getKind() == Tree.Kind.PLUS && kind == TypeKind.DECLARED) {
                fault(10, "texts joined by +");
            }
            return super.visitBinary(tree, v);
        }

        @Override
        public Void visitThrow(ThrowTree tree, Void v) {
            if (!"MinimalTables.rule".equals(method)) {
                fault(6, method + " throws");
            }
            return super.visitThrow(tree, v);
        }

        @Override
        public Void visitTry(TryTree tree, Void v) {
            fault(6, "try in " + method);
            return super.visitTry(tree, v);
        }

        @Override
        public Void visitLambdaExpression(LambdaExpressionTree tree, Void v) {
            fault(2, "a lambda in " + method);
            return super.visitLambdaExpression(tree, v);
        }

        @Override
        public Void visitMemberReference(MemberReferenceTree tree, Void v) {
            fault(2, "a method reference in " + method);
            return super.visitMemberReference(tree, v);
        }

        @Override
        public Void visitAssert(AssertTree tree, Void v) {
            fault(6, "assert in " + method);
            return super.visitAssert(tree, v);
        }

        @Override
        public Void visitSynchronized(SynchronizedTree tree, Void v) {
            fault(6, "synchronized in " + method);
            return super.visitSynchronized(tree, v);
        }

        @Override
        public Void visitAnnotation(AnnotationTree tree, Void v) {
            fault(4, "an annotation in " + method);
            return super.visitAnnotation(tree, v);
        }
    }

    /** How deep calls go from there on; 99 if a method comes to itself. */
    private static int depth(Map<String, Set<String>> calls, String method, List<String> open) {
        if (open.contains(method)) {
            return 99;
        }
        open.add(method);
        int most = 0;
        for (String called : calls.getOrDefault(method, Set.of())) {
            most = Math.max(most, depth(calls, called, open));
        }
        open.remove(method);
        return most + 1;
    }

    public static void main(String[] args) throws Exception {
        JavaCompiler compiler = ToolProvider.getSystemJavaCompiler();
        StandardJavaFileManager files = compiler.getStandardFileManager(null, null, null);
        File source = new File(System.getProperty("main.source", "src/main/java/MinimalTables.java"));
        JavacTask task = (JavacTask) compiler.getTask(null, files, null, List.of("-proc:none"), null,
            files.getJavaFileObjects(source));
        CompilationUnitTree unit = task.parse().iterator().next();
        task.analyze();
        Look look = new Look(Trees.instance(task), unit);
        look.scan(unit, null);
        if (unit.getPackageName() != null) {
            fault(1, "a package line");
        }
        Set<String> face = new TreeSet<>(List.of(FACE.split(" ")));
        if (!face.equals(look.faceMethods)) {
            fault(1, "the face is " + look.faceMethods);
        }
        Set<String> names = new TreeSet<>();
        face.forEach(m -> names.add(m.substring(0, m.indexOf('('))));
        names.retainAll(look.otherMethods);
        if (!names.isEmpty()) {
            fault(1, "inner methods bear names of the face: " + names);
        }
        if (look.classes > CLASSES_MOST) {
            fault(11, look.classes + " classes");
        }
        look.fields.forEach((owner, count) -> {
            if (count > FIELDS_MOST) {
                fault(11, owner + " has " + count + " fields");
            }
        });
        int deepest = 0;
        for (String method : look.calls.keySet()) {
            int depth = depth(look.calls, method, new ArrayList<>());
            deepest = Math.max(deepest, depth);
            if (depth > DEPTH_MOST) {
                fault(11, method + " goes " + depth + " deep");
            }
        }
        System.out.println(look.classes + " classes, " + look.calls.size() + " methods, calls " + deepest + " deep, "
            + wrong + " faults");
        if (wrong != 0) {
            System.exit(1);
        }
    }
}
