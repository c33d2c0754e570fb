import com.sun.source.tree.AssertTree;
import com.sun.source.tree.BinaryTree;
import com.sun.source.tree.BlockTree;
import com.sun.source.tree.CatchTree;
import com.sun.source.tree.ClassTree;
import com.sun.source.tree.CompilationUnitTree;
import com.sun.source.tree.IdentifierTree;
import com.sun.source.tree.ImportTree;
import com.sun.source.tree.LambdaExpressionTree;
import com.sun.source.tree.LiteralTree;
import com.sun.source.tree.MemberReferenceTree;
import com.sun.source.tree.MemberSelectTree;
import com.sun.source.tree.MethodInvocationTree;
import com.sun.source.tree.MethodTree;
import com.sun.source.tree.NewClassTree;
import com.sun.source.tree.SynchronizedTree;
import com.sun.source.tree.ThrowTree;
import com.sun.source.tree.Tree;
import com.sun.source.tree.TryTree;
import com.sun.source.tree.VariableTree;
import com.sun.source.util.JavacTask;
import com.sun.source.util.TreeScanner;
import com.sun.source.util.Trees;
import java.io.File;
import java.lang.reflect.Constructor;
import java.lang.reflect.Field;
import java.lang.reflect.Method;
import java.lang.reflect.Modifier;
import java.util.ArrayList;
import java.util.HashMap;
import java.util.List;
import java.util.Map;
import java.util.Set;
import java.util.TreeSet;
import javax.tools.JavaCompiler;
import javax.tools.StandardJavaFileManager;
import javax.tools.ToolProvider;

/** What can be counted of ../shared/LANGUAGE.md, by the compiler's tree of the program. */
final class LanguageTests extends TreeScanner<Void, String> {
    private static final String FACE = "feed(long) end(int) text() fault() rule(int) hand(int,boolean) join(int,int) "
            + "knows(int) row(int,int) who(int) learn(int,int) forget(int,int) glove(int,boolean) shake(int,int) "
            + "feast(int) after(int,int) lost(int) told(int,int) fewest(int,int,int,int) rounds(int,int,int) lose(int) "
            + "lives(int) comes(int) days(int) saw(int,int) blind() fits(int,int) least() seats(int,int,int) "
            + "gloves(int,int,int) keep(int) back(int) sheet(int,int,int) lay(int,int,int) read(int,int,int,int) "
            + "torn() count(int)";
    private static final Set<String> LIBRARY = Set.of("System.arraycopy", "Integer.bitCount", "Math.max", "Math.min",
            "name.length", "name.charAt");

    private final Set<String> faceNames = new TreeSet<>();
    private final Set<String> declared = new TreeSet<>();
    private final Map<String, Set<String>> calls = new HashMap<>();
    private final Set<String> libraryCalls = new TreeSet<>();
    private CompilationUnitTree unit;
    private Trees trees;
    private int classes;

    static void run(String file) throws Exception {
        face();
        new LanguageTests().look(file);
    }

    private static void face() {
        Set<String> due = new TreeSet<>(Set.of(FACE.split(" ")));
        Set<String> found = new TreeSet<>();
        for (Method m : ShakeHands.class.getDeclaredMethods()) {
            if (!Modifier.isPrivate(m.getModifiers())) {
                StringBuilder s = new StringBuilder();
                for (Class<?> c : m.getParameterTypes()) {
                    s.append(s.length() == 0 ? "" : ",").append(c.getName());
                }
                found.add(m.getName() + "(" + s + ")");
                Due.holds(m + " answers an int and is public", m.getReturnType() == int.class
                        && m.getModifiers() == Modifier.PUBLIC);
            }
        }
        Due.holds("the face is " + due + ", found " + found, due.equals(found));
        Set<String> constants = new TreeSet<>();
        for (Field f : ShakeHands.class.getDeclaredFields()) {
            if (!Modifier.isPrivate(f.getModifiers())) {
                constants.add(f.getName());
                Due.holds(f + " is a constant", f.getType() == int.class
                        && f.getModifiers() == (Modifier.PUBLIC | Modifier.STATIC | Modifier.FINAL));
            }
        }
        Due.holds("constants " + constants, constants.equals(Set.of("BAD", "STATE", "FULL", "NONE")));
        Constructor<?>[] made = ShakeHands.class.getDeclaredConstructors();
        Due.holds("one constructor", made.length == 1 && made[0].getParameterCount() == 0
                && made[0].getModifiers() == Modifier.PUBLIC);
        Due.holds("public and final", ShakeHands.class.getModifiers() == (Modifier.PUBLIC | Modifier.FINAL));
    }

    private void look(String file) throws Exception {
        for (String s : FACE.split(" ")) {
            faceNames.add(s.substring(0, s.indexOf('(')));
        }
        JavaCompiler compiler = ToolProvider.getSystemJavaCompiler();
        try (StandardJavaFileManager files = compiler.getStandardFileManager(null, null, null)) {
            JavacTask task = (JavacTask) compiler.getTask(null, files, null, null, null,
                    files.getJavaFileObjects(new File(file)));
            trees = Trees.instance(task);
            for (CompilationUnitTree u : task.parse()) {
                unit = u;
                Due.holds("no package", u.getPackageName() == null);
                Due.is("classes on top", 1, u.getTypeDecls().size());
                scan(u, "");
            }
        }
        Due.holds(classes + " classes", classes <= 12);
        libraryCalls.removeAll(LIBRARY);
        Due.holds("calls that are not listed: " + libraryCalls, libraryCalls.isEmpty());
        for (String name : faceNames) {
            List<String> path = deepest("ShakeHands." + name, new ArrayList<>());
            Due.holds("calls at most eight deep: " + path, path.size() <= 8);
        }
    }

    private List<String> deepest(String from, List<String> above) {
        List<String> best = new ArrayList<>();
        if (above.contains(from)) {
            return best;
        }
        above.add(from);
        for (String to : calls.getOrDefault(from, Set.of())) {
            for (String owner : declared) {
                if (owner.endsWith("." + to)) {
                    List<String> path = deepest(owner, above);
                    if (path.size() > best.size()) {
                        best = path;
                    }
                }
            }
        }
        above.remove(from);
        List<String> path = new ArrayList<>(List.of(from));
        path.addAll(best);
        return path;
    }

    private void never(Tree tree, String what) {
        Due.holds("none of this: " + what + " " + tree, false);
    }

    private long lines(Tree tree) {
        long from = trees.getSourcePositions().getStartPosition(unit, tree);
        long to = trees.getSourcePositions().getEndPosition(unit, tree);
        return unit.getLineMap().getLineNumber(to) - unit.getLineMap().getLineNumber(from) + 1;
    }

    private static boolean isSaid(Tree modifiers, String word) {
        return (" " + modifiers + " ").contains(word + " ");
    }

    @Override
    public Void visitClass(ClassTree c, String in) {
        classes++;
        String name = c.getSimpleName().toString();
        Due.holds("one class in another: " + name, in.isEmpty() || in.equals("ShakeHands"));
        Due.holds("static: " + name, in.isEmpty() || isSaid(c.getModifiers(), "static"));
        int fields = 0;
        for (Tree member : c.getMembers()) {
            if (member instanceof BlockTree) {
                never(member, "initialiser");
            }
            if (member instanceof MethodTree) {
                declared.add(name + "." + ((MethodTree) member).getName());
            }
            if (member instanceof VariableTree) {
                Tree modifiers = ((VariableTree) member).getModifiers();
                if (isSaid(modifiers, "static")) {
                    Due.holds("final: " + member, isSaid(modifiers, "final"));
                } else {
                    fields++;
                }
            }
        }
        Due.holds(fields + " fields in " + name, fields <= 20);
        return super.visitClass(c, name);
    }

    @Override
    public Void visitMethod(MethodTree m, String in) {
        String name = m.getName().toString();
        Due.holds("lines of " + name, lines(m) <= 60);
        Due.holds("parameters of " + name, m.getParameters().size() <= 7);
        Due.holds("no throws: " + name, m.getThrows().isEmpty());
        Due.holds("no name of a public one: " + in + "." + name,
                in.equals("ShakeHands") && isSaid(m.getModifiers(), "public") || !faceNames.contains(name));
        String was = within;
        within = in + "." + name;
        super.visitMethod(m, in);
        within = was;
        return null;
    }

    private String within = "";

    @Override
    public Void visitMethodInvocation(MethodInvocationTree call, String in) {
        Tree of = call.getMethodSelect();
        if (of instanceof IdentifierTree) {
            calls.computeIfAbsent(within, k -> new TreeSet<>()).add(of.toString());
        } else {
            MemberSelectTree select = (MemberSelectTree) of;
            String owner = select.getExpression().toString();
            boolean libraryClass = Set.of("System", "Integer", "Long", "Math", "String", "name").contains(owner);
            if (libraryClass) {
                libraryCalls.add(select.toString());
            } else {
                calls.computeIfAbsent(within, k -> new TreeSet<>()).add(select.getIdentifier().toString());
            }
        }
        return super.visitMethodInvocation(call, in);
    }

    @Override
    public Void visitNewClass(NewClassTree made, String in) {
        if (made.getClassBody() != null) {
            never(made, "anonymous class");
        }
        return super.visitNewClass(made, in);
    }

    @Override
    public Void visitBinary(BinaryTree b, String in) {
        for (Tree side : List.of(b.getLeftOperand(), b.getRightOperand())) {
            if (side instanceof LiteralTree && ((LiteralTree) side).getValue() instanceof String) {
                never(b, "texts joined");
            }
        }
        return super.visitBinary(b, in);
    }

    @Override
    public Void visitImport(ImportTree i, String in) {
        never(i, "import");
        return null;
    }

    @Override
    public Void visitThrow(ThrowTree t, String in) {
        never(t, "throw");
        return null;
    }

    @Override
    public Void visitTry(TryTree t, String in) {
        never(t, "try");
        return null;
    }

    @Override
    public Void visitCatch(CatchTree t, String in) {
        never(t, "catch");
        return null;
    }

    @Override
    public Void visitAssert(AssertTree t, String in) {
        never(t, "assert");
        return null;
    }

    @Override
    public Void visitSynchronized(SynchronizedTree t, String in) {
        never(t, "synchronized");
        return null;
    }

    @Override
    public Void visitLambdaExpression(LambdaExpressionTree t, String in) {
        never(t, "lambda");
        return null;
    }

    @Override
    public Void visitMemberReference(MemberReferenceTree t, String in) {
        never(t, "method reference");
        return null;
    }
}
