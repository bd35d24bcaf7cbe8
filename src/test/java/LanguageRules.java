import com.sun.source.tree.ClassTree;
import com.sun.source.tree.CompilationUnitTree;
import com.sun.source.tree.MethodInvocationTree;
import com.sun.source.tree.MethodTree;
import com.sun.source.tree.NewClassTree;
import com.sun.source.tree.Tree;
import com.sun.source.tree.VariableTree;
import com.sun.source.util.JavacTask;
import com.sun.source.util.TreePath;
import com.sun.source.util.TreePathScanner;
import com.sun.source.util.Trees;
import java.nio.file.Path;
import java.util.ArrayDeque;
import java.util.ArrayList;
import java.util.Deque;
import java.util.HashMap;
import java.util.HashSet;
import java.util.List;
import java.util.Map;
import java.util.Set;
import java.util.TreeSet;
import javax.lang.model.element.Element;
import javax.lang.model.element.ExecutableElement;
import javax.lang.model.element.Modifier;
import javax.lang.model.element.TypeElement;
import javax.tools.JavaCompiler;
import javax.tools.StandardJavaFileManager;
import javax.tools.ToolProvider;

/** LANGUAGE.md's rules, as far as a look at the source can tell. */
public final class LanguageRules extends TreePathScanner<Void, Void> {
    private static final Set<Tree.Kind> FORBIDDEN = Set.of(Tree.Kind.TRY, Tree.Kind.THROW, Tree.Kind.CATCH,
            Tree.Kind.SYNCHRONIZED, Tree.Kind.ASSERT, Tree.Kind.LAMBDA_EXPRESSION, Tree.Kind.MEMBER_REFERENCE);
    private static final Set<String> LIBRARY = Set.of("java.lang.Object.<init>", "java.lang.String.length",
            "java.lang.String.charAt", "java.lang.System.arraycopy", "java.util.Arrays.fill", "java.lang.Math.min",
            "java.lang.Math.max", "java.lang.Integer.bitCount");

    private final Trees trees;
    private final CompilationUnitTree unit;
    private final Map<String, Set<String>> calls = new HashMap<>();
    private final Map<String, Boolean> isPublic = new HashMap<>();
    private final List<String> broken = new ArrayList<>();
    private final Deque<String> inside = new ArrayDeque<>();
    private int classes;

    private LanguageRules(Trees trees, CompilationUnitTree unit) {
        this.trees = trees;
        this.unit = unit;
    }

    public static void main(String[] args) throws Exception {
        JavaCompiler compiler = ToolProvider.getSystemJavaCompiler();
        try (StandardJavaFileManager files = compiler.getStandardFileManager(null, null, null)) {
            JavacTask task = (JavacTask) compiler.getTask(null, files, null, List.of("-proc:none"), null,
                    files.getJavaFileObjects(Path.of("src/main/java/DailyLie.java")));
            CompilationUnitTree unit = task.parse().iterator().next();
            task.analyze();
            LanguageRules rules = new LanguageRules(Trees.instance(task), unit);
            rules.scan(unit, null);
            rules.checkNames();
            rules.checkDepth();
            rules.broken.forEach(System.out::println);
            System.out.println("language rules: " + rules.calls.size() + " methods, " + rules.broken.size() + " faults");
            System.exit(rules.broken.isEmpty() && rules.calls.size() > 100 ? 0 : 1);
        }
    }

    private long line(Tree tree, boolean atEnd) {
        long at = atEnd ? trees.getSourcePositions().getEndPosition(unit, tree)
                : trees.getSourcePositions().getStartPosition(unit, tree);
        return unit.getLineMap().getLineNumber(at);
    }

    private void fault(String rule, Tree tree) {
        broken.add("line " + line(tree, false) + ": " + rule);
    }

    @Override
    public Void scan(Tree tree, Void nothing) {
        if (tree != null && FORBIDDEN.contains(tree.getKind())) {
            fault("a " + tree.getKind(), tree);
        }
        if (tree != null && tree.getKind() == Tree.Kind.PLUS
                && trees.getTypeMirror(new TreePath(getCurrentPath(), tree)).toString().contains("String")) {
            fault("texts joined by +", tree);
        }
        return super.scan(tree, nothing);
    }

    @Override
    public Void visitClass(ClassTree tree, Void nothing) {
        classes++;
        Set<Modifier> flags = tree.getModifiers().getFlags();
        boolean outer = getCurrentPath().getParentPath().getLeaf() == unit;
        if (!outer && !flags.contains(Modifier.STATIC)) {
            fault("an inner class", tree);
        }
        int fields = 0;
        for (Tree member : tree.getMembers()) {
            if (member instanceof VariableTree field) {
                boolean isStatic = field.getModifiers().getFlags().contains(Modifier.STATIC);
                fields += isStatic ? 0 : 1;
                if (isStatic && !field.getModifiers().getFlags().contains(Modifier.FINAL)) {
                    fault("a static field that is not final", field);
                }
            }
        }
        if (fields > 20) {
            fault("too many fields", tree);
        }
        if (classes > 12) {
            fault("too many classes", tree);
        }
        return super.visitClass(tree, nothing);
    }

    @Override
    public Void visitMethod(MethodTree tree, Void nothing) {
        ExecutableElement method = (ExecutableElement) trees.getElement(getCurrentPath());
        String name = nameOf(method);
        calls.computeIfAbsent(name, n -> new TreeSet<>());
        isPublic.put(name, method.getModifiers().contains(Modifier.PUBLIC));
        if (tree.getParameters().size() > 7) {
            fault("too many parameters", tree);
        }
        if (line(tree, true) - line(tree, false) > 60) {
            fault("a long method", tree);
        }
        inside.push(name);
        super.visitMethod(tree, nothing);
        inside.pop();
        return null;
    }

    @Override
    public Void visitMethodInvocation(MethodInvocationTree tree, Void nothing) {
        addCall(trees.getElement(getCurrentPath()), tree);
        return super.visitMethodInvocation(tree, nothing);
    }

    @Override
    public Void visitNewClass(NewClassTree tree, Void nothing) {
        addCall(trees.getElement(getCurrentPath()), tree);
        return super.visitNewClass(tree, nothing);
    }

    private void addCall(Element called, Tree tree) {
        String name = nameOf((ExecutableElement) called);
        if (!name.startsWith("DailyLie")) {
            if (!LIBRARY.contains(name)) {
                fault("not of the library that is used: " + name, tree);
            }
        } else if (!inside.isEmpty()) {
            calls.get(inside.peek()).add(name);
        }
    }

    private static String nameOf(ExecutableElement method) {
        return ((TypeElement) method.getEnclosingElement()).getQualifiedName() + "." + method.getSimpleName();
    }

    private void checkNames() {
        Set<String> face = new HashSet<>();
        isPublic.forEach((name, open) -> {
            if (open) {
                face.add(simple(name));
            }
        });
        isPublic.forEach((name, open) -> {
            if (!open && !name.endsWith("<init>") && face.contains(simple(name))) {
                broken.add("the name of a public method: " + name);
            }
        });
    }

    private static String simple(String name) {
        return name.substring(name.lastIndexOf('.') + 1);
    }

    /** The abstract readClause stands for the two that implement it. */
    private void checkDepth() {
        calls.get("DailyLie.ClauseReader.readClause").add("DailyLie.TownReader.readClause");
        calls.get("DailyLie.ClauseReader.readClause").add("DailyLie.RuleReader.readClause");
        for (String name : calls.keySet()) {
            int deep = depth(name, new ArrayDeque<>());
            if (deep > 8 && isPublic.get(name)) {
                broken.add(deep + " calls deep: " + name);
            }
        }
    }

    private int depth(String name, Deque<String> open) {
        if (open.contains(name)) {
            return 0;
        }
        open.push(name);
        int deepest = 0;
        for (String called : calls.getOrDefault(name, Set.of())) {
            deepest = Math.max(deepest, depth(called, open));
        }
        open.pop();
        boolean stands = name.equals("DailyLie.ClauseReader.readClause");
        return deepest + (stands ? 0 : 1);
    }
}
