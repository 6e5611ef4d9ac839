import com.sun.source.tree.AssertTree;
import com.sun.source.tree.CatchTree;
import com.sun.source.tree.ClassTree;
import com.sun.source.tree.CompilationUnitTree;
import com.sun.source.tree.LambdaExpressionTree;
import com.sun.source.tree.MemberReferenceTree;
import com.sun.source.tree.MethodInvocationTree;
import com.sun.source.tree.MethodTree;
import com.sun.source.tree.NewArrayTree;
import com.sun.source.tree.NewClassTree;
import com.sun.source.tree.SynchronizedTree;
import com.sun.source.tree.ThrowTree;
import com.sun.source.tree.Tree;
import com.sun.source.tree.TryTree;
import com.sun.source.tree.VariableTree;
import com.sun.source.util.JavacTask;
import com.sun.source.util.TreePathScanner;
import com.sun.source.util.Trees;
import java.lang.reflect.Field;
import java.lang.reflect.Method;
import java.lang.reflect.Modifier;
import java.nio.file.Path;
import java.util.ArrayList;
import java.util.Arrays;
import java.util.HashMap;
import java.util.HashSet;
import java.util.LinkedHashMap;
import java.util.LinkedHashSet;
import java.util.List;
import java.util.Map;
import java.util.Set;
import java.util.TreeSet;
import javax.lang.model.element.Element;
import javax.lang.model.element.ExecutableElement;
import javax.tools.JavaCompiler;
import javax.tools.StandardJavaFileManager;
import javax.tools.ToolProvider;

/** The rules of LANGUAGE.md that can be looked up in the source, and the room that calls take. Argument: the source file. */
public final class LanguageTest extends TreePathScanner<Void, Void> {
    private static final String FACE = "asks back bather bathersBy benches cell copy count door drawn feed film fire force hut image judge"
        + " kinds laws leaves logs minute odds pour put run share sheet states stays steams stoke swap taken text together told when whose";
    private static final Set<String> LIBRARY = Set.of("max", "min", "fill", "copyOf", "arraycopy", "length", "charAt");
    private static final Set<String> MAKERS = Set.of("<init>", "textRead");

    private static int wrong;
    private final Trees trees;
    private final CompilationUnitTree unit;
    private final Map<Element, Set<Element>> calls = new LinkedHashMap<>();
    private final Set<Element> recursive = new HashSet<>();
    private final Map<Element, Integer> depths = new HashMap<>();
    private int classes;

    private LanguageTest(Trees trees, CompilationUnitTree unit) {
        this.trees = trees;
        this.unit = unit;
    }

    private static void must(boolean holds, String rule) {
        if (!holds) {
            wrong++;
            System.out.println("rule " + rule);
        }
    }

    private Element inMethod() {
        for (var at = getCurrentPath(); at != null; at = at.getParentPath()) {
            if (at.getLeaf() instanceof MethodTree) { return trees.getElement(at); }
        }
        return null;
    }

    private void forbidden(Tree tree, String rule) {
        must(false, rule + ", line " + unit.getLineMap().getLineNumber(trees.getSourcePositions().getStartPosition(unit, tree)));
    }

    @Override public Void visitThrow(ThrowTree t, Void v) { forbidden(t, "6: throw"); return super.visitThrow(t, v); }
    @Override public Void visitTry(TryTree t, Void v) { forbidden(t, "6: try"); return super.visitTry(t, v); }
    @Override public Void visitCatch(CatchTree t, Void v) { forbidden(t, "6: catch"); return super.visitCatch(t, v); }
    @Override public Void visitAssert(AssertTree t, Void v) { forbidden(t, "6: assert"); return super.visitAssert(t, v); }
    @Override public Void visitSynchronized(SynchronizedTree t, Void v) { forbidden(t, "6: synchronized"); return super.visitSynchronized(t, v); }
    @Override public Void visitLambdaExpression(LambdaExpressionTree t, Void v) { forbidden(t, "2: lambda"); return super.visitLambdaExpression(t, v); }
    @Override public Void visitMemberReference(MemberReferenceTree t, Void v) { forbidden(t, "2: method reference"); return super.visitMemberReference(t, v); }

    @Override public Void visitClass(ClassTree t, Void v) {
        classes++;
        Element outer = trees.getElement(getCurrentPath()).getEnclosingElement();
        boolean inside = outer.getKind().isClass();
        boolean isStatic = t.getModifiers().getFlags().contains(javax.lang.model.element.Modifier.STATIC);
        must(!inside || isStatic, "2: a class inside is static: " + t.getSimpleName());
        long fields = t.getMembers().stream().filter(m -> m instanceof VariableTree f
            && !f.getModifiers().getFlags().contains(javax.lang.model.element.Modifier.STATIC)).count();
        must(fields <= 20, "11: fields of " + t.getSimpleName());
        return super.visitClass(t, v);
    }

    @Override public Void visitMethod(MethodTree t, Void v) {
        Element method = trees.getElement(getCurrentPath());
        calls.putIfAbsent(method, new LinkedHashSet<>());
        long from = unit.getLineMap().getLineNumber(trees.getSourcePositions().getStartPosition(unit, t));
        long to = unit.getLineMap().getLineNumber(trees.getSourcePositions().getEndPosition(unit, t));
        must(to - from < 60, "11: the length of " + method);
        must(t.getParameters().size() <= 7, "11: parameters of " + method);
        boolean isPublic = t.getModifiers().getFlags().contains(javax.lang.model.element.Modifier.PUBLIC);
        must(isPublic || !Arrays.asList(FACE.split(" ")).contains(t.getName().toString()), "1: the name of " + method);
        return super.visitMethod(t, v);
    }

    @Override public Void visitMethodInvocation(MethodInvocationTree t, Void v) {
        Element called = trees.getElement(getCurrentPath());
        Element caller = inMethod();
        String name = called.getSimpleName().toString();
        boolean own = called.getEnclosingElement().toString().startsWith("SteamOnBench");
        must(own || LIBRARY.contains(name) || name.equals("<init>"), "4: " + called.getEnclosingElement() + "." + name);
        if (own && caller != null) { calls.computeIfAbsent(caller, k -> new LinkedHashSet<>()).add(called); }
        return super.visitMethodInvocation(t, v);
    }

    private void makes(Tree t) {
        Element method = inMethod();
        must(method == null || MAKERS.contains(method.getSimpleName().toString()), "12: " + method + " makes " + t);
    }
    @Override public Void visitNewClass(NewClassTree t, Void v) {
        makes(t);
        Element made = trees.getElement(getCurrentPath());
        Element caller = inMethod();
        if (caller != null) { calls.computeIfAbsent(caller, k -> new LinkedHashSet<>()).add(made); }
        return super.visitNewClass(t, v);
    }
    @Override public Void visitNewArray(NewArrayTree t, Void v) { makes(t); return super.visitNewArray(t, v); }

    private boolean reaches(Element from, Element to, Set<Element> seen) {
        for (Element next : calls.getOrDefault(from, Set.of())) {
            if (next.equals(to) || seen.add(next) && reaches(next, to, seen)) { return true; }
        }
        return false;
    }

    /** How many methods stand open at once from this one on; those of the recursion count once together. */
    private int depth(Element method) {
        Integer known = depths.get(method);
        if (known != null) { return known; }
        Set<Element> group = new LinkedHashSet<>(List.of(method));
        if (recursive.contains(method)) {
            for (Element other : recursive) {
                if (reaches(method, other, new HashSet<>()) && reaches(other, method, new HashSet<>())) { group.add(other); }
            }
        }
        int deepest = 0;
        for (Element one : group) {
            for (Element next : calls.getOrDefault(one, Set.of())) {
                if (!group.contains(next)) { deepest = Math.max(deepest, depth(next)); }
            }
        }
        depths.put(method, deepest + 1);
        return deepest + 1;
    }

    private void looked() {
        for (Element method : calls.keySet()) {
            if (reaches(method, method, new HashSet<>())) { recursive.add(method); }
        }
        Set<String> names = new TreeSet<>();
        recursive.forEach(e -> names.add(e.getSimpleName().toString()));
        must(names.equals(Set.of("readOr", "readAnd", "readNot", "readSum", "readTerm", "readOne")), "8: recursion " + names);
        int deepest = 0;
        for (Element method : calls.keySet()) {
            int depth = depth(method);
            must(depth <= 8, "11: " + method + " goes " + depth + " deep");
            deepest = Math.max(deepest, depth);
        }
        must(classes <= 12, "11: classes");
        System.out.println(classes + " classes, calls go " + deepest + " deep");
    }

    private static void source(String file) throws Exception {
        JavaCompiler compiler = ToolProvider.getSystemJavaCompiler();
        try (StandardJavaFileManager files = compiler.getStandardFileManager(null, null, null)) {
            JavacTask task = (JavacTask) compiler.getTask(null, files, null, null, null, files.getJavaFileObjects(Path.of(file)));
            CompilationUnitTree unit = task.parse().iterator().next();
            task.analyze();
            must(unit.getPackage() == null, "no package line");
            unit.getImports().forEach(i -> must(i.toString().trim().equals("import java.util.Arrays;"), "4: " + i));
            LanguageTest test = new LanguageTest(Trees.instance(task), unit);
            test.scan(unit, null);
            test.looked();
        }
    }

    private static void face() {
        Set<String> names = new TreeSet<>();
        for (Method m : SteamOnBench.class.getDeclaredMethods()) {
            if (!Modifier.isPrivate(m.getModifiers())) { names.add(m.getName()); }
            must(Modifier.isPublic(m.getModifiers()) || Modifier.isPrivate(m.getModifiers()) || m.isSynthetic(), "1: " + m);
        }
        must(names.equals(new TreeSet<>(Arrays.asList(FACE.split(" ")))), "1: the face " + names);
        Set<String> constants = new TreeSet<>();
        for (Field f : SteamOnBench.class.getDeclaredFields()) {
            if (!Modifier.isPrivate(f.getModifiers())) { constants.add(f.getName()); }
            must(!Modifier.isStatic(f.getModifiers()) || Modifier.isFinal(f.getModifiers()), "5: " + f);
        }
        must(constants.equals(Set.of("NONE", "BAD", "STATE", "FULL", "NO")), "1: constants " + constants);
        must(Modifier.isFinal(SteamOnBench.class.getModifiers()) && Modifier.isPublic(SteamOnBench.class.getModifiers()), "1: final");
    }

    /** Every call, with arguments far off in each place, in a hut that is full and in an empty one: none may throw. */
    private static void farOff() throws Exception {
        int[] odd = {0, 1, 2, 3, 5, 6, 10, 40, 41, -1, -2, 99999, Integer.MIN_VALUE, Integer.MAX_VALUE};
        for (int full = 0; full < 2; full++) {
            SteamOnBench x = new SteamOnBench();
            for (int b = 0; b < 6 * full; b++) {
                x.bather(10 * b + 9, 10 * b + b % 4);
                x.film(b % 4, b, 19);
            }
            for (Method m : SteamOnBench.class.getDeclaredMethods()) {
                if (Modifier.isPublic(m.getModifiers())) { call(x, m, new ArrayList<>(), odd); }
            }
        }
    }

    private static void call(SteamOnBench x, Method m, List<Object> arguments, int[] odd) {
        int wanted = m.getParameterCount();
        if (arguments.size() == wanted) {
            try {
                m.invoke(x, arguments.toArray());
            } catch (ReflectiveOperationException e) {
                must(false, "7: " + m.getName() + arguments + " threw " + e.getCause());
            }
            return;
        }
        for (int i = 0; i < odd.length; i += wanted > 4 ? 3 : 1) {
            arguments.add(odd[i]);
            call(x, m, arguments, odd);
            arguments.remove(arguments.size() - 1);
        }
    }

    public static void main(String[] args) throws Exception {
        source(args.length > 0 ? args[0] : "src/main/java/SteamOnBench.java");
        face();
        farOff();
        System.out.println(wrong == 0 ? "the source keeps to the rules that were looked up" : wrong + " rules are broken");
        if (wrong != 0) { System.exit(1); }
    }
}
