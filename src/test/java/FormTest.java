import com.sun.source.tree.BinaryTree;
import com.sun.source.tree.ClassTree;
import com.sun.source.tree.CompilationUnitTree;
import com.sun.source.tree.ExpressionTree;
import com.sun.source.tree.IdentifierTree;
import com.sun.source.tree.LineMap;
import com.sun.source.tree.MemberSelectTree;
import com.sun.source.tree.MethodInvocationTree;
import com.sun.source.tree.MethodTree;
import com.sun.source.tree.NewArrayTree;
import com.sun.source.tree.NewClassTree;
import com.sun.source.tree.Tree;
import com.sun.source.tree.VariableTree;
import com.sun.source.util.JavacTask;
import com.sun.source.util.TreePath;
import com.sun.source.util.TreePathScanner;
import com.sun.source.util.Trees;
import java.io.File;
import java.lang.reflect.Array;
import java.lang.reflect.Field;
import java.lang.reflect.Modifier;
import java.util.ArrayDeque;
import java.util.Deque;
import java.util.HashMap;
import java.util.HashSet;
import java.util.IdentityHashMap;
import java.util.List;
import java.util.Map;
import java.util.Set;
import java.util.TreeSet;
import javax.lang.model.element.Element;
import javax.lang.model.element.ElementKind;
import javax.lang.model.element.ExecutableElement;
import javax.tools.JavaCompiler;
import javax.tools.StandardJavaFileManager;
import javax.tools.ToolProvider;

/** The rules of LANGUAGE.md that the compiler's own tree of the program can tell, and the room that one object takes. */
public final class FormTest {
    private static final Check CHECK = new Check();
    private static final String PROGRAM = "src/main/java/DropsDance.java";
    private static final int MOST_PARAMETERS = 7, MOST_LINES = 60, MOST_CLASSES = 12, MOST_FIELDS = 20, MOST_DEPTH = 8;
    private static final int MOST_OBJECTS = 200, MOST_ELEMENTS = 5000;
    private static final Set<Tree.Kind> BANNED = Set.of(Tree.Kind.THROW, Tree.Kind.TRY, Tree.Kind.CATCH, Tree.Kind.SYNCHRONIZED, Tree.Kind.ASSERT,
        Tree.Kind.LAMBDA_EXPRESSION, Tree.Kind.MEMBER_REFERENCE);
    private static final Set<String> LIBRARY = Set.of("java.lang.Object.<init>", "java.lang.String.length", "java.lang.String.charAt",
        "java.lang.String.indexOf", "java.lang.Math.min", "java.lang.Math.max", "java.lang.System.arraycopy", "java.util.Arrays.fill");
    private static final Set<String> STATIC_TYPES = Set.of("int", "long", "boolean", "char", "String", "int[]", "long[]", "char[]", "byte[]");

    public static void main(String[] args) throws Exception {
        form();
        room();
        CHECK.end("FormTest");
    }

    private static void form() throws Exception {
        JavaCompiler compiler = ToolProvider.getSystemJavaCompiler();
        try (StandardJavaFileManager files = compiler.getStandardFileManager(null, null, null)) {
            JavacTask task = (JavacTask) compiler.getTask(null, files, null, List.of("-proc:none"), null, files.getJavaFileObjects(new File(PROGRAM)));
            CompilationUnitTree unit = task.parse().iterator().next();
            task.analyze();
            Looker looker = new Looker(unit, Trees.instance(task));
            looker.scan(unit, null);
            CHECK.holds("no package line", unit.getPackage() == null);
            CHECK.holds("rule 11: " + looker.classes + " classes", looker.classes <= MOST_CLASSES);
            for (String method : looker.calls.keySet()) {
                int depth = looker.depthFrom(method, new HashSet<>());
                CHECK.holds("rules 8, 11: " + method + " goes " + depth + " deep", depth <= MOST_DEPTH);
            }
        }
    }

    private static final class Looker extends TreePathScanner<Void, Void> {
        private final CompilationUnitTree unit;
        private final Trees trees;
        private final LineMap lines;
        private int classes = 0;
        private String method = "";
        private final Map<String, Set<String>> calls = new HashMap<>();

        Looker(CompilationUnitTree unit, Trees trees) {
            this.unit = unit;
            this.trees = trees;
            lines = unit.getLineMap();
        }

        /** How many calls stand open at once; one that calls itself, by others too, goes too deep. */
        int depthFrom(String from, Set<String> open) {
            if (!open.add(from)) {
                return 1000;
            }
            int deepest = 0;
            for (String to : calls.getOrDefault(from, Set.of())) {
                deepest = Math.max(deepest, depthFrom(to, open));
            }
            open.remove(from);
            return deepest + 1;
        }

        private void holds(Tree where, String what, boolean so) {
            long line = lines.getLineNumber(trees.getSourcePositions().getStartPosition(unit, where));
            CHECK.holds("line " + line + ": " + what, so);
        }

        private Element element(Tree t) {
            return trees.getElement(new TreePath(getCurrentPath(), t));
        }

        @Override
        public Void scan(Tree t, Void v) {
            if (t != null && BANNED.contains(t.getKind())) {
                holds(t, "rules 2, 6: " + t.getKind(), false);
            }
            return super.scan(t, v);
        }

        @Override
        public Void visitClass(ClassTree t, Void v) {
            classes++;
            Tree around = getCurrentPath().getParentPath().getLeaf();
            boolean outermost = around instanceof CompilationUnitTree;
            holds(t, "rule 2: a class of the file or a static one inside it", outermost
                || around instanceof ClassTree && t.getModifiers().getFlags().contains(javax.lang.model.element.Modifier.STATIC));
            int fields = 0;
            for (Tree member : t.getMembers()) {
                if (member instanceof VariableTree field) {
                    fields += isStatic(field) ? 0 : 1;
                    staticField(field);
                }
                holds(member, "rule 5: no initialiser block", member.getKind() != Tree.Kind.BLOCK);
            }
            holds(t, "rule 11: " + fields + " fields", fields <= MOST_FIELDS);
            return super.visitClass(t, v);
        }

        private static boolean isStatic(VariableTree field) {
            return field.getModifiers().getFlags().contains(javax.lang.model.element.Modifier.STATIC);
        }

        private void staticField(VariableTree field) {
            if (isStatic(field)) {
                holds(field, "rule 5: a static field is final", field.getModifiers().getFlags().contains(javax.lang.model.element.Modifier.FINAL));
                holds(field, "rule 5: a static field's type " + field.getType(), STATIC_TYPES.contains(field.getType().toString()));
            }
        }

        @Override
        public Void visitMethod(MethodTree t, Void v) {
            String before = method;
            method = nameOf((ExecutableElement) trees.getElement(getCurrentPath()));
            long end = trees.getSourcePositions().getEndPosition(unit, t);
            if (end >= 0) {
                long many = lines.getLineNumber(end) - lines.getLineNumber(trees.getSourcePositions().getStartPosition(unit, t)) + 1;
                holds(t, "rule 11: " + method + " has " + many + " lines", many <= MOST_LINES);
            }
            holds(t, "rule 11: parameters of " + method, t.getParameters().size() <= MOST_PARAMETERS);
            super.visitMethod(t, v);
            method = before;
            return null;
        }

        private static String nameOf(ExecutableElement e) {
            return e.getEnclosingElement() + "." + e.getSimpleName();
        }

        @Override
        public Void visitMethodInvocation(MethodInvocationTree t, Void v) {
            ExecutableElement called = (ExecutableElement) element(t.getMethodSelect());
            String name = nameOf(called);
            if (name.startsWith("DropsDance")) {
                calls.computeIfAbsent(method, m -> new TreeSet<>()).add(name);
            } else {
                holds(t, "rule 4: " + name, LIBRARY.contains(name));
            }
            return super.visitMethodInvocation(t, v);
        }

        @Override
        public Void visitNewClass(NewClassTree t, Void v) {
            holds(t, "rule 2: no anonymous class", t.getClassBody() == null);
            holds(t, "rule 12: made by a constructor alone", method.isEmpty() || method.endsWith("<init>"));
            for (ExpressionTree argument : t.getArguments()) {
                holds(t, "rule 12: a constructor hands out nothing: " + argument, !isOfTheObject(argument));
            }
            return super.visitNewClass(t, v);
        }

        private boolean isOfTheObject(ExpressionTree argument) {
            if (!(argument instanceof IdentifierTree) && !(argument instanceof MemberSelectTree)) {
                return false;
            }
            Element e = element(argument);
            return e == null || argument.toString().equals("this")
                || e.getKind() == ElementKind.FIELD && !e.getModifiers().contains(javax.lang.model.element.Modifier.STATIC);
        }

        @Override
        public Void visitNewArray(NewArrayTree t, Void v) {
            holds(t, "rule 12: made by a constructor alone", method.isEmpty() || method.endsWith("<init>"));
            return super.visitNewArray(t, v);
        }

        @Override
        public Void visitBinary(BinaryTree t, Void v) {
            String type = String.valueOf(trees.getTypeMirror(getCurrentPath()));
            holds(t, "rule 10: no texts joined by +", !type.equals("java.lang.String"));
            return super.visitBinary(t, v);
        }
    }

    /** Some 600,000 objects and 7.3 million fields and elements are there for all objects of a run. */
    private static void room() throws Exception {
        IdentityHashMap<Object, Boolean> seen = new IdentityHashMap<>();
        Deque<Object> toSee = new ArrayDeque<>();
        toSee.add(new DropsDance());
        int elements = 0;
        while (!toSee.isEmpty()) {
            Object o = toSee.remove();
            if (seen.put(o, true) != null) {
                continue;
            }
            if (o.getClass().isArray()) {
                elements += Array.getLength(o);
                for (int i = 0; i < Array.getLength(o) && !o.getClass().getComponentType().isPrimitive(); i++) {
                    toSee.add(Array.get(o, i));
                }
            } else {
                elements += addFields(o, toSee);
            }
        }
        CHECK.holds("room: " + seen.size() + " objects", seen.size() <= MOST_OBJECTS);
        CHECK.holds("room: " + elements + " fields and elements", elements <= MOST_ELEMENTS);
    }

    private static int addFields(Object o, Deque<Object> toSee) throws IllegalAccessException {
        int many = 0;
        for (Field f : o.getClass().getDeclaredFields()) {
            if (Modifier.isStatic(f.getModifiers())) {
                continue;
            }
            many++;
            f.setAccessible(true);
            if (!f.getType().isPrimitive()) {
                toSee.add(f.get(o));
            }
        }
        return many;
    }
}
