import com.sun.source.tree.*;
import com.sun.source.util.JavacTask;
import com.sun.source.util.TreePath;
import com.sun.source.util.TreePathScanner;
import com.sun.source.util.Trees;
import java.io.File;
import java.io.IOException;
import java.util.HashMap;
import java.util.HashSet;
import java.util.List;
import java.util.Map;
import java.util.Set;
import java.util.TreeMap;
import javax.lang.model.element.Element;
import javax.lang.model.element.ElementKind;
import javax.lang.model.element.ExecutableElement;
import javax.lang.model.element.Modifier;
import javax.tools.JavaCompiler;
import javax.tools.StandardJavaFileManager;
import javax.tools.ToolProvider;

/** The rules of ../shared/LANGUAGE.md that can be seen in the source, by the compiler's own trees. */
public final class LanguageTest extends TreePathScanner<Void, Void> {
    private static final String FILE = "src/main/java/OnlyPrimes.java";
    private static final Set<String> FACE = Set.of("told", "allowed", "way", "one", "type", "clear", "read",
        "judged", "ends", "parted", "row", "knot", "untie", "counted", "partings", "together", "soonest",
        "at", "never", "hired", "last", "still", "tables", "company", "disperse", "put", "ferry", "part",
        "image", "from", "status", "count", "digest");
    private static final Set<String> CONSTANTS = Set.of("NONE", "BAD", "NO", "FULL");
    private static final Set<String> LIBRARY = Set.of("Math.max", "Math.min", "Integer.bitCount",
        "String.length", "String.charAt", "Object.<init>");
    private static final Set<Tree.Kind> NEVER = Set.of(Tree.Kind.THROW, Tree.Kind.TRY, Tree.Kind.CATCH,
        Tree.Kind.ASSERT, Tree.Kind.SYNCHRONIZED, Tree.Kind.LAMBDA_EXPRESSION, Tree.Kind.MEMBER_REFERENCE,
        Tree.Kind.TYPE_CAST, Tree.Kind.INSTANCE_OF, Tree.Kind.PACKAGE, Tree.Kind.IMPORT, Tree.Kind.ANNOTATION,
        Tree.Kind.WHILE_LOOP, Tree.Kind.DO_WHILE_LOOP);

    private final Trees trees;
    private final CompilationUnitTree unit;
    private final Map<Element, Set<Element>> calls = new HashMap<>();
    private final Map<Element, Integer> depths = new HashMap<>();
    private final Set<Element> open = new HashSet<>();
    private final Map<String, Integer> fields = new TreeMap<>();
    private int classes;

    private LanguageTest(Trees trees, CompilationUnitTree unit) {
        this.trees = trees;
        this.unit = unit;
    }

    public static void main(String[] args) throws IOException {
        JavaCompiler compiler = ToolProvider.getSystemJavaCompiler();
        try (StandardJavaFileManager files = compiler.getStandardFileManager(null, null, null)) {
            JavacTask task = (JavacTask) compiler.getTask(null, files, null, List.of("-proc:none"), null,
                files.getJavaFileObjects(new File(FILE)));
            CompilationUnitTree unit = task.parse().iterator().next();
            task.analyze();
            LanguageTest test = new LanguageTest(Trees.instance(task), unit);
            test.scan(unit, null);
            test.sums();
        }
        Check.end();
    }

    private void holds(String what, boolean is) {
        Check.holds(what + " at line " + line(getCurrentPath().getLeaf()), is);
    }

    private long line(Tree tree) {
        return unit.getLineMap().getLineNumber(trees.getSourcePositions().getStartPosition(unit, tree));
    }

    private Element element() {
        return trees.getElement(getCurrentPath());
    }

    @Override
    public Void scan(Tree tree, Void none) {
        // A cast between numbers is no cast among classes, so casts are looked at apart.
        if (tree != null && tree.getKind() != Tree.Kind.TYPE_CAST && NEVER.contains(tree.getKind())) {
            Check.holds(tree.getKind() + " at line " + line(tree), false);
        }
        return super.scan(tree, none);
    }

    @Override
    public Void visitTypeCast(TypeCastTree tree, Void none) {
        holds("rule 6: a cast to a number", tree.getType().getKind() == Tree.Kind.PRIMITIVE_TYPE);
        return super.visitTypeCast(tree, none);
    }

    @Override
    public Void visitClass(ClassTree tree, Void none) {
        classes++;
        Set<Modifier> modifiers = tree.getModifiers().getFlags();
        boolean isInside = getCurrentPath().getParentPath().getLeaf().getKind() == Tree.Kind.CLASS;
        holds("rule 2: a named class", !tree.getSimpleName().isEmpty());
        holds("rule 1: no package, one file", unit.getPackageName() == null && unit.getTypeDecls().size() == 1);
        if (isInside) {
            holds("rule 2: static and not public", modifiers.contains(Modifier.STATIC)
                && !modifiers.contains(Modifier.PUBLIC) && !modifiers.contains(Modifier.PROTECTED));
        } else {
            holds("rule 1: public and final", modifiers.containsAll(Set.of(Modifier.PUBLIC, Modifier.FINAL)));
        }
        return super.visitClass(tree, none);
    }

    @Override
    public Void visitBlock(BlockTree tree, Void none) {
        holds("rule 5: no static block", !tree.isStatic());
        return super.visitBlock(tree, none);
    }

    @Override
    public Void visitVariable(VariableTree tree, Void none) {
        Element e = element();
        if (e.getKind() == ElementKind.FIELD) {
            String owner = e.getEnclosingElement().getSimpleName().toString();
            Set<Modifier> modifiers = e.getModifiers();
            if (modifiers.contains(Modifier.STATIC)) {
                holds("rule 5: static fields are final", modifiers.contains(Modifier.FINAL));
            } else {
                fields.merge(owner, 1, Integer::sum);
            }
            if (owner.equals("OnlyPrimes")) {
                boolean isPublic = CONSTANTS.contains(e.getSimpleName().toString());
                holds("rule 1: " + e, modifiers.contains(isPublic ? Modifier.PUBLIC : Modifier.PRIVATE));
            }
        }
        return super.visitVariable(tree, none);
    }

    @Override
    public Void visitMethod(MethodTree tree, Void none) {
        ExecutableElement e = (ExecutableElement) element();
        calls.putIfAbsent(e, new HashSet<>());
        String name = e.getSimpleName().toString();
        boolean isOuter = e.getEnclosingElement().getSimpleName().contentEquals("OnlyPrimes");
        boolean isFace = FACE.contains(name) || name.equals("<init>");
        if (isOuter) {
            holds("rule 1: " + name, e.getModifiers().contains(isFace ? Modifier.PUBLIC : Modifier.PRIVATE));
        } else {
            holds("rule 1: " + name + " is a name of the face", !FACE.contains(name));
        }
        holds("rule 6: " + name, !Set.of("equals", "hashCode", "toString").contains(name));
        holds("rule 11: parameters of " + name, e.getParameters().size() <= 7);
        long end = trees.getSourcePositions().getEndPosition(unit, tree);
        holds("rule 11: lines of " + name, unit.getLineMap().getLineNumber(end) - line(tree) < 60);
        return super.visitMethod(tree, none);
    }

    @Override
    public Void visitForLoop(ForLoopTree tree, Void none) {
        holds("rule 9: a bound", tree.getCondition() != null && !tree.getUpdate().isEmpty());
        return super.visitForLoop(tree, none);
    }

    @Override
    public Void visitMethodInvocation(MethodInvocationTree tree, Void none) {
        called((ExecutableElement) element());
        return super.visitMethodInvocation(tree, none);
    }

    @Override
    public Void visitNewClass(NewClassTree tree, Void none) {
        called((ExecutableElement) element());
        return super.visitNewClass(tree, none);
    }

    private void called(ExecutableElement e) {
        String owner = e.getEnclosingElement().toString();
        if (!owner.startsWith("OnlyPrimes")) {
            String name = owner.substring(owner.lastIndexOf('.') + 1) + "." + e.getSimpleName();
            holds("rule 4: " + name, LIBRARY.contains(name));
        }
        for (TreePath path = getCurrentPath(); path != null; path = path.getParentPath()) {
            if (path.getLeaf().getKind() == Tree.Kind.METHOD) {
                calls.computeIfAbsent(trees.getElement(path), k -> new HashSet<>()).add(e);
                return;
            }
        }
    }

    private int depth(Element e) {
        if (!depths.containsKey(e)) {
            Check.holds("rule 8: no recursion, but in " + e, open.add(e));
            int deepest = 0;
            for (Element to : calls.getOrDefault(e, Set.of())) {
                deepest = open.contains(to) && to != e ? 99 : Math.max(deepest, depth(to));
            }
            open.remove(e);
            depths.put(e, deepest + 1);
        }
        return depths.get(e);
    }

    private void sums() {
        Check.holds("rule 11: " + classes + " classes", classes <= 12);
        for (Map.Entry<String, Integer> e : fields.entrySet()) {
            Check.holds("rule 11: " + e.getValue() + " fields of " + e.getKey(), e.getValue() <= 20);
        }
        int publicMethods = 0;
        for (Element e : calls.keySet()) {
            publicMethods += e.getModifiers().contains(Modifier.PUBLIC) ? 1 : 0;
            int depth = depth(e);
            Check.holds("rule 11: calls " + depth + " deep from " + e, depth <= 8);
        }
        Check.due("rule 1: public methods and the constructor", publicMethods, FACE.size() + 1);
    }
}
