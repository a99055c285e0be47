import com.sun.source.tree.AssertTree;
import com.sun.source.tree.BinaryTree;
import com.sun.source.tree.CatchTree;
import com.sun.source.tree.ClassTree;
import com.sun.source.tree.CompilationUnitTree;
import com.sun.source.tree.ExpressionTree;
import com.sun.source.tree.IdentifierTree;
import com.sun.source.tree.ImportTree;
import com.sun.source.tree.LambdaExpressionTree;
import com.sun.source.tree.LiteralTree;
import com.sun.source.tree.MemberReferenceTree;
import com.sun.source.tree.MemberSelectTree;
import com.sun.source.tree.MethodInvocationTree;
import com.sun.source.tree.MethodTree;
import com.sun.source.tree.NewArrayTree;
import com.sun.source.tree.NewClassTree;
import com.sun.source.tree.SynchronizedTree;
import com.sun.source.tree.ThrowTree;
import com.sun.source.tree.Tree;
import com.sun.source.tree.TryTree;
import com.sun.source.tree.TypeCastTree;
import com.sun.source.tree.VariableTree;
import com.sun.source.util.JavacTask;
import com.sun.source.util.TreeScanner;
import com.sun.source.util.Trees;
import java.lang.management.ManagementFactory;
import java.lang.reflect.Constructor;
import java.lang.reflect.Field;
import java.lang.reflect.Method;
import java.lang.reflect.Modifier;
import java.nio.file.Path;
import java.util.ArrayList;
import java.util.Arrays;
import java.util.HashMap;
import java.util.HashSet;
import java.util.List;
import java.util.Map;
import java.util.Set;
import java.util.TreeSet;
import javax.lang.model.element.Name;
import javax.tools.JavaCompiler;
import javax.tools.StandardJavaFileManager;
import javax.tools.ToolProvider;

/** The document's face and the rules of LANGUAGE.md that can be looked up in the source (its path is the argument). */
public final class LanguageTest {
    private static final String[] FACE = {
        "boolean allSouls(int)", "boolean cats(int,int)", "boolean chains(int)", "boolean ghost(int,int,int,int,int)", "boolean seed(int)",
        "boolean sleeper(int,int)", "boolean sleeps(int,int,int,int)", "boolean undo()", "int bestWalk(int,int)", "int bids(int,int,int)",
        "int candle(int,int,int)", "int check(int)", "int count(int)", "int draughts()", "int feed(int,int,int,int,int)",
        "int fright(int,int,int,int,int)", "int july(int,int)", "int keep()", "int law(int)", "int live()", "int mend(int)",
        "int mended(int,int)", "int odds(int,int,int)", "int off(int,int,int)", "int once(int,int)", "int rota(int)", "int shared(int,int)",
        "int soFar(int)", "int walk(int,int)", "int week(int)"};
    private static final Set<String> LIBRARY = Set.of("indexOf", "fill", "arraycopy", "bitCount", "max", "min");

    private static final Set<String> LIBRARIES = Set.of("Arrays", "System", "Integer", "Math");

    private final Due due = new Due("LanguageTest");
    private final Map<String, Set<String>> calls = new HashMap<>();
    private final Set<String> face = new HashSet<>();

    public static void main(String[] args) throws Exception {
        LanguageTest t = new LanguageTest();
        t.face();
        t.members(GhostRota.class);
        int classes = 1;
        for (Class<?> inside : GhostRota.class.getDeclaredClasses()) {
            classes++;
            t.members(inside);
            t.due.yes(inside + " is static", Modifier.isStatic(inside.getModifiers()));
            t.due.no(inside + " is public", Modifier.isPublic(inside.getModifiers()) || Modifier.isProtected(inside.getModifiers()));
        }
        t.due.yes("at most twelve classes", classes <= 12);
        t.source(args.length > 0 ? args[0] : "src/main/java/GhostRota.java");
        t.depths();
        t.room();
        t.due.end();
    }

    private void face() {
        TreeSet<String> seen = new TreeSet<>();
        for (Method m : GhostRota.class.getDeclaredMethods()) {
            if (Modifier.isPrivate(m.getModifiers())) {
                continue;
            }
            due.yes(m + " is public and not static", Modifier.isPublic(m.getModifiers()) && !Modifier.isStatic(m.getModifiers()));
            String parameters = Arrays.toString(m.getParameterTypes()).replaceAll("[\\[\\] ]", "");
            seen.add(m.getReturnType() + " " + m.getName() + "(" + parameters + ")");
            face.add(m.getName());
        }
        due.same("the face: " + seen, seen.equals(new TreeSet<>(Arrays.asList(FACE))) ? 1 : 0, 1);
        due.yes("final", Modifier.isFinal(GhostRota.class.getModifiers()));
        Constructor<?>[] makers = GhostRota.class.getDeclaredConstructors();
        due.yes("one public constructor", makers.length == 1 && Modifier.isPublic(makers[0].getModifiers()) && makers[0].getParameterCount() == 0);
        for (Field f : GhostRota.class.getDeclaredFields()) {
            due.same(f + " is private, or NONE", Modifier.isPrivate(f.getModifiers()) || f.getName().equals("NONE") ? 1 : 0, 1);
        }
    }

    private void members(Class<?> c) {
        int fields = 0;
        for (Field f : c.getDeclaredFields()) {
            if (Modifier.isStatic(f.getModifiers())) {
                due.yes(f + " is final", Modifier.isFinal(f.getModifiers()));
                due.yes(f + " is a number", f.getType().isPrimitive());
            } else {
                fields++;
            }
        }
        due.yes(c + " has at most twenty fields", fields <= 20);
        for (Method m : c.getDeclaredMethods()) {
            due.yes(m + " has at most seven parameters", m.getParameterCount() <= 7);
            due.no(m + " bears a name of the face", c != GhostRota.class && face.contains(m.getName()));
            due.no(m + " bears a name of the face", Modifier.isPrivate(m.getModifiers()) && face.contains(m.getName()));
        }
    }

    private void source(String path) throws Exception {
        JavaCompiler compiler = ToolProvider.getSystemJavaCompiler();
        try (StandardJavaFileManager files = compiler.getStandardFileManager(null, null, null)) {
            JavacTask task = (JavacTask) compiler.getTask(null, files, null, List.of("-proc:none"), null, files.getJavaFileObjects(Path.of(path)));
            Trees trees = Trees.instance(task);
            for (CompilationUnitTree unit : task.parse()) {
                due.yes("no package", unit.getPackageName() == null);
                due.yes("one class in the file", unit.getTypeDecls().size() == 1);
                new Rules(unit, trees).scan(unit, null);
            }
        }
    }

    /** Walks through the source. */
    private final class Rules extends TreeScanner<Void, Void> {
        private final CompilationUnitTree unit;
        private final Trees trees;
        private String method;
        private String inClass = "";

        Rules(CompilationUnitTree unit, Trees trees) {
            this.unit = unit;
            this.trees = trees;
        }

        private long line(long position) {
            return unit.getLineMap().getLineNumber(position);
        }

        private long start(Tree tree) {
            return line(trees.getSourcePositions().getStartPosition(unit, tree));
        }

        private void never(Tree tree) {
            due.no("line " + start(tree) + " has " + tree.getKind(), true);
        }

        @Override
        public Void visitImport(ImportTree tree, Void v) {
            due.same("import " + tree.getQualifiedIdentifier(), tree.getQualifiedIdentifier().toString().equals("java.util.Arrays") ? 1 : 0, 1);
            return null;
        }

        @Override
        public Void visitClass(ClassTree tree, Void v) {
            due.yes("line " + start(tree) + ": no anonymous or local class", method == null);
            String before = inClass;
            inClass = tree.getSimpleName().toString();
            super.visitClass(tree, v);
            inClass = before;
            return null;
        }

        @Override
        public Void visitMethod(MethodTree tree, Void v) {
            method = tree.getName().toString();
            calls.computeIfAbsent(method, k -> new HashSet<>());
            long last = line(trees.getSourcePositions().getEndPosition(unit, tree));
            due.yes(method + " has at most 60 lines", last - start(tree) < 60);
            super.visitMethod(tree, v);
            method = null;
            return null;
        }

        @Override
        public Void visitMethodInvocation(MethodInvocationTree tree, Void v) {
            ExpressionTree what = tree.getMethodSelect();
            Name name = what instanceof MemberSelectTree s ? s.getIdentifier() : ((IdentifierTree) what).getName();
            String of = what instanceof MemberSelectTree s ? s.getExpression().toString() : "";
            if (LIBRARIES.contains(of) || name.contentEquals("indexOf")) {
                due.yes("line " + start(tree) + " calls " + name, LIBRARY.contains(name.toString()));
            } else if (method != null && !name.contentEquals("super")) {
                calls.get(method).add(name.toString());
            }
            return super.visitMethodInvocation(tree, v);
        }

        @Override
        public Void visitNewClass(NewClassTree tree, Void v) {
            due.yes("line " + start(tree) + ": objects are made with their owner alone", method == null);
            return super.visitNewClass(tree, v);
        }

        @Override
        public Void visitNewArray(NewArrayTree tree, Void v) {
            due.yes("line " + start(tree) + ": rows are made with their owner alone", method == null);
            return super.visitNewArray(tree, v);
        }

        @Override
        public Void visitBinary(BinaryTree tree, Void v) {
            if (tree.getKind() == Tree.Kind.PLUS) {
                due.no("line " + start(tree) + " joins texts by +", isText(tree.getLeftOperand()) || isText(tree.getRightOperand()));
            }
            return super.visitBinary(tree, v);
        }

        private boolean isText(Tree tree) {
            return tree.getKind() == Tree.Kind.STRING_LITERAL;
        }

        @Override
        public Void visitLiteral(LiteralTree tree, Void v) {
            if (tree.getValue() instanceof String s) {
                due.yes("line " + start(tree) + ": signs 1 to 127", s.chars().allMatch(c -> c > 0 && c < 128));
            }
            return null;
        }

        @Override
        public Void visitVariable(VariableTree tree, Void v) {
            due.no("line " + start(tree) + ": no var", tree.getType() == null);
            return super.visitVariable(tree, v);
        }

        @Override
        public Void visitTypeCast(TypeCastTree tree, Void v) {
            due.yes("line " + start(tree) + ": casts of numbers alone", tree.getType().getKind() == Tree.Kind.PRIMITIVE_TYPE);
            return super.visitTypeCast(tree, v);
        }

        @Override
        public Void visitThrow(ThrowTree tree, Void v) {
            never(tree);
            return null;
        }

        @Override
        public Void visitTry(TryTree tree, Void v) {
            never(tree);
            return null;
        }

        @Override
        public Void visitCatch(CatchTree tree, Void v) {
            never(tree);
            return null;
        }

        @Override
        public Void visitSynchronized(SynchronizedTree tree, Void v) {
            never(tree);
            return null;
        }

        @Override
        public Void visitAssert(AssertTree tree, Void v) {
            never(tree);
            return null;
        }

        @Override
        public Void visitLambdaExpression(LambdaExpressionTree tree, Void v) {
            never(tree);
            return null;
        }

        @Override
        public Void visitMemberReference(MemberReferenceTree tree, Void v) {
            never(tree);
            return null;
        }
    }

    /** Calls go at most eight deep, where methods that call one another (a recursion) are one level together. */
    private void depths() {
        for (Map.Entry<String, Set<String>> e : calls.entrySet()) {
            for (String name : e.getValue()) {
                due.yes(e.getKey() + " calls " + name, calls.containsKey(name));
            }
        }
        for (String name : face) {
            int depth = depth(name);
            due.yes(name + " goes " + depth + " deep", depth <= 8);
        }
    }

    private int depth(String name) {
        Set<String> circle = new HashSet<>();
        for (String other : reached(name)) {
            if (reached(other).contains(name)) {
                circle.add(other);
            }
        }
        circle.add(name);
        int most = 0;
        for (String one : circle) {
            for (String next : calls.getOrDefault(one, Set.of())) {
                most = circle.contains(next) ? most : Math.max(most, depth(next));
            }
        }
        return most + 1;
    }

    /** All that a method calls, and what these call, and so on. */
    private Set<String> reached(String name) {
        Set<String> seen = new HashSet<>();
        List<String> open = new ArrayList<>(calls.getOrDefault(name, Set.of()));
        while (!open.isEmpty()) {
            String next = open.remove(open.size() - 1);
            if (seen.add(next)) {
                open.addAll(calls.getOrDefault(next, Set.of()));
            }
        }
        return seen;
    }

    /** No call makes objects; the rows of one house are few. */
    private void room() {
        com.sun.management.ThreadMXBean threads = (com.sun.management.ThreadMXBean) ManagementFactory.getThreadMXBean();
        use(new GhostRota());
        GhostRota x = new GhostRota();
        long id = Thread.currentThread().getId();
        long before = threads.getThreadAllocatedBytes(id);
        use(x);
        long used = threads.getThreadAllocatedBytes(id) - before;
        due.yes("calls make nothing, but took " + used, used < 4096);
        before = threads.getThreadAllocatedBytes(id);
        new GhostRota().count(0);
        used = threads.getThreadAllocatedBytes(id) - before;
        due.yes("a house is small, but took " + used, used < 60000);
    }

    private static void use(GhostRota x) {
        // k(1=1);fm(1=1)a, then 0@0-0;0@1-0+
        x.feed(0x6b28313d, 0x31293b66, 0x6d28313d, 0x31296100, 0);
        x.law(14);
        x.feed(0x30403020, 0, 0, 0, 0);
        x.rota(3);
        x.feed(0x3040302d, 0x303b3040, 0x312d302b, 0, 0);
        x.rota(12);
        for (int i = 0; i < 10; i++) {
            x.ghost(i, i % 5, i, i, i);
            x.sleeper(i, i);
            x.sleeps(i, 0, 7, i);
        }
        for (int what = 0; what < 10; what++) {
            x.week(what);
            x.live();
            x.soFar(what);
            x.once(1023, what);
            x.bestWalk(5, 0);
            x.candle(0, 3, 1);
            x.draughts();
            x.mended(0, 1);
            x.shared(0, 1);
            x.july(8, what);
            x.off(10, 366, what);
            x.bids(9, 9, 1);
            x.odds(0, 0, 0);
            x.keep();
            x.undo();
            x.fright(0, 0, 0, 0, 1);
            x.walk(0, what);
            x.count(what);
            x.check(0);
        }
    }
}
