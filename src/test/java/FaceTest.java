import com.sun.source.tree.ClassTree;
import com.sun.source.tree.MethodTree;
import com.sun.source.tree.ModifiersTree;
import com.sun.source.tree.Tree;
import com.sun.source.tree.VariableTree;
import com.sun.source.util.JavacTask;
import java.io.File;
import java.lang.reflect.Member;
import java.lang.reflect.Modifier;
import java.util.ArrayList;
import java.util.List;
import java.util.Set;
import java.util.TreeSet;
import javax.tools.JavaCompiler;
import javax.tools.StandardJavaFileManager;
import javax.tools.ToolProvider;

/**
 * "The public face": every constant, the constructor, every method, with its parameters and what it throws, as the
 * document writes them, and no other member than these (rule 1 of LANGUAGE.md).
 */
public final class FaceTest {
    private static final String FACE = """
        public static final int NONE = -1
        public static final int HIDDEN = -1000000
        public MinimalTables()
        public int feed(int a, int b, int c, int d, int e)
        public boolean end(int n)
        public int fault(int sort)
        public int text(int sort)
        public int rule(int rule, int what) throws NoSuchElementException
        public int letter(int rule, int i)
        public int sign(int sentence, int i)
        public int name(int name, int what)
        public int trees(int name, int n, int h)
        public int names(int what)
        public int toggle(int rule)
        public int prefer(int sign)
        public int undo()
        public int states(int kind)
        public int look(int kind, int state, int rule, int dot, boolean closed)
        public int state(int kind, int state, int what)
        public int goesTo(int kind, int state, int letter)
        public int action(int kind, int state, int sign, boolean defaults)
        public int bridge(int kind, int state, int name, int sign)
        public int counts(int kind, int what)
        public int path(int kind, int state, int i)
        public int reads(int kind, int sentence, int mode, int what)
        public int reduced(int kind, int sentence, int mode, int i)
        public int expects(int kind, int sentence)
        public int mends(int kind, int sentence)
        public int tree(int kind, int sentence, int i, int what)
        public int sorts()
        public int same(int one, int other, int m)
        public int word(long seed, int i)
        public int keep(long seed)
        public int image()
        public int back()
        public int count(int what)
        """;
    private static int wrong = 0;

    private static void due(String what, Object got, Object want) {
        if (!got.equals(want)) {
            wrong++;
            System.out.println(what + " is " + got + ", due is " + want);
        }
    }

    private static String modifiers(ModifiersTree tree) {
        List<String> words = new ArrayList<>();
        tree.getFlags().forEach(flag -> words.add(flag.toString()));
        return String.join(" ", words);
    }

    private static String method(MethodTree tree, String owner) {
        List<String> parameters = new ArrayList<>();
        tree.getParameters().forEach(p -> parameters.add(p.getType() + " " + p.getName()));
        List<String> thrown = new ArrayList<>();
        tree.getThrows().forEach(t -> thrown.add(t.toString()));
        String name = tree.getReturnType() == null ? owner : tree.getReturnType() + " " + tree.getName();
        return modifiers(tree.getModifiers()) + " " + name + "(" + String.join(", ", parameters) + ")"
            + (thrown.isEmpty() ? "" : " throws " + String.join(", ", thrown));
    }

    private static boolean isPrivate(ModifiersTree tree) {
        return tree.getFlags().contains(javax.lang.model.element.Modifier.PRIVATE);
    }

    private static Set<String> without(Set<String> all, Set<String> gone) {
        Set<String> rest = new TreeSet<>(all);
        rest.removeAll(gone);
        return rest;
    }

    /** What the source shows: also names of parameters and values of constants. */
    private static void asWritten(ClassTree tree) {
        due("the class", modifiers(tree.getModifiers()) + " " + tree.getSimpleName(), "public final MinimalTables");
        due("what it extends", String.valueOf(tree.getExtendsClause()), "null");
        due("what it implements", tree.getImplementsClause().size(), 0);
        due("type parameters", tree.getTypeParameters().size(), 0);
        Set<String> face = new TreeSet<>();
        for (Tree member : tree.getMembers()) {
            if (member instanceof MethodTree && !isPrivate(((MethodTree) member).getModifiers())) {
                face.add(method((MethodTree) member, tree.getSimpleName().toString()));
            } else if (member instanceof VariableTree && !isPrivate(((VariableTree) member).getModifiers())) {
                VariableTree field = (VariableTree) member;
                face.add(modifiers(field.getModifiers()) + " " + field.getType() + " " + field.getName() + " = "
                    + field.getInitializer());
            }
        }
        Set<String> wanted = new TreeSet<>(List.of(FACE.strip().split("\n")));
        due("what the document has and the class has not", without(wanted, face), Set.of());
        due("what the class has and the document has not", without(face, wanted), Set.of());
    }

    /** What the compiled class shows: nothing came to it that the source does not tell. */
    private static void asCompiled() {
        Class<?> c = MinimalTables.class;
        due("above it", c.getSuperclass(), Object.class);
        due("interfaces", c.getInterfaces().length, 0);
        List<Member> members = new ArrayList<>(List.of(c.getDeclaredMethods()));
        members.addAll(List.of(c.getDeclaredConstructors()));
        members.addAll(List.of(c.getDeclaredFields()));
        int seen = 0;
        for (Member member : members) {
            if (!Modifier.isPrivate(member.getModifiers())) {
                seen++;
                due(member + ": public", Modifier.isPublic(member.getModifiers()), true);
            }
        }
        due("members that can be seen", seen, FACE.strip().split("\n").length);
        for (Class<?> inner : c.getDeclaredClasses()) {
            int flags = inner.getModifiers();
            due(inner + ": seen outside", Modifier.isPublic(flags) || Modifier.isProtected(flags), false);
            due(inner + ": static", Modifier.isStatic(flags), true);
        }
    }

    public static void main(String[] args) throws Exception {
        JavaCompiler compiler = ToolProvider.getSystemJavaCompiler();
        StandardJavaFileManager files = compiler.getStandardFileManager(null, null, null);
        File source = new File(System.getProperty("main.source", "src/main/java/MinimalTables.java"));
        JavacTask task = (JavacTask) compiler.getTask(null, files, null, List.of("-proc:none"), null,
            files.getJavaFileObjects(source));
        List<? extends Tree> types = task.parse().iterator().next().getTypeDecls();
        due("classes in the file", types.size(), 1);
        asWritten((ClassTree) types.get(0));
        asCompiled();
        System.out.println("the face has " + FACE.strip().split("\n").length + " members, " + wrong + " wrong");
        if (wrong != 0) {
            System.exit(1);
        }
    }
}
