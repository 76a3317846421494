import com.sun.source.tree.BinaryTree;
import com.sun.source.tree.ClassTree;
import com.sun.source.tree.CompilationUnitTree;
import com.sun.source.tree.ForLoopTree;
import com.sun.source.tree.LineMap;
import com.sun.source.tree.MethodInvocationTree;
import com.sun.source.tree.MethodTree;
import com.sun.source.tree.NewClassTree;
import com.sun.source.tree.Tree;
import com.sun.source.tree.VariableTree;
import com.sun.source.util.JavacTask;
import com.sun.source.util.SourcePositions;
import com.sun.source.util.TreePath;
import com.sun.source.util.TreePathScanner;
import com.sun.source.util.Trees;
import java.io.File;
import java.util.EnumSet;
import java.util.HashMap;
import java.util.LinkedHashMap;
import java.util.LinkedHashSet;
import java.util.Map;
import java.util.Set;
import java.util.TreeSet;
import javax.lang.model.element.Element;
import javax.lang.model.element.ElementKind;
import javax.lang.model.element.Modifier;
import javax.tools.JavaCompiler;
import javax.tools.StandardJavaFileManager;
import javax.tools.ToolProvider;

/** Holds the program to what of LANGUAGE.md can be told from its tree. */
final class LanguageTests extends TreePathScanner<Void, Void> {
    private static final Set<Tree.Kind> BARRED = EnumSet.of(Tree.Kind.THROW, Tree.Kind.TRY, Tree.Kind.CATCH,
        Tree.Kind.SYNCHRONIZED, Tree.Kind.ASSERT, Tree.Kind.LAMBDA_EXPRESSION, Tree.Kind.MEMBER_REFERENCE,
        Tree.Kind.INSTANCE_OF, Tree.Kind.IMPORT, Tree.Kind.ANNOTATION, Tree.Kind.DO_WHILE_LOOP);
    private static final Set<String> LIBRARY = Set.of("java.lang.String.length", "java.lang.String.charAt",
        "java.lang.Math.min", "java.lang.Math.max", "java.lang.Math.floorDiv", "java.lang.System.arraycopy");
    private static final Set<String> FACE = new TreeSet<>(Set.of("NONE", "NOTHING", "<init>", "feed", "end", "room",
        "fault", "has", "letter", "bobbin", "seam", "row", "judge", "mean", "when", "looks", "rule", "fewest", "free",
        "hidden", "several", "wound", "day", "sew", "glance", "sews", "anew", "undo", "seed", "see", "fits", "ask",
        "image", "octet", "on", "status"));

    private final Trees trees;
    private final SourcePositions places;
    private final CompilationUnitTree unit;
    private final Set<String> open = new TreeSet<>();
    private final Map<Element, Set<Element>> calls = new LinkedHashMap<>();
    private Element method;
    private int classes;

    private LanguageTests(Trees trees, CompilationUnitTree unit) {
        this.trees = trees;
        this.places = trees.getSourcePositions();
        this.unit = unit;
    }

    public static void main(String[] args) throws Exception {
        JavaCompiler compiler = ToolProvider.getSystemJavaCompiler();
        StandardJavaFileManager files = compiler.getStandardFileManager(null, null, null);
        JavacTask task = (JavacTask) compiler.getTask(null, files, null, null, null,
            files.getJavaFileObjects(new File("src/main/java/BelowThread.java")));
        CompilationUnitTree unit = task.parse().iterator().next();
        task.analyze();
        LanguageTests tests = new LanguageTests(Trees.instance(task), unit);
        tests.scan(unit, null);
        Checks.due("the face " + tests.open, tests.open.equals(FACE), true);
        Checks.due("classes", tests.classes <= 12, true);
        tests.depths();
        Checks.end("LanguageTests");
    }

    private int lineOf(Tree tree) {
        return (int) unit.getLineMap().getLineNumber(places.getStartPosition(unit, tree));
    }

    private void bar(Tree tree, String why, boolean good) {
        Checks.due("line " + lineOf(tree) + ": " + why, good, true);
    }

    @Override public Void scan(Tree tree, Void nothing) {
        if (tree != null && BARRED.contains(tree.getKind())) {
            bar(tree, tree.getKind().toString(), false);
        }
        return super.scan(tree, nothing);
    }

    @Override public Void visitClass(ClassTree tree, Void nothing) {
        classes++;
        Set<Modifier> flags = tree.getModifiers().getFlags();
        boolean outer = getCurrentPath().getParentPath().getLeaf() == unit;
        bar(tree, "flags of a class", outer ? flags.equals(Set.of(Modifier.PUBLIC, Modifier.FINAL))
            : flags.contains(Modifier.STATIC) && flags.contains(Modifier.PRIVATE));
        int fields = 0;
        for (Tree member : tree.getMembers()) {
            Element element = trees.getElement(new TreePath(getCurrentPath(), member));
            boolean made = member.getKind() == Tree.Kind.METHOD && places.getEndPosition(unit, member) < 0;
            if (outer && !element.getModifiers().contains(Modifier.PRIVATE)) {
                open.add(element.getSimpleName().toString());
                bar(member, "an open member", element.getModifiers().contains(Modifier.PUBLIC));
            } else if (!made && element.getKind() == ElementKind.METHOD) {
                bar(member, "bears a public name", !FACE.contains(element.getSimpleName().toString()));
            }
            if (element.getKind() == ElementKind.FIELD) {
                boolean fixed = element.getModifiers().contains(Modifier.STATIC);
                bar(member, "static and not final", !fixed || element.getModifiers().contains(Modifier.FINAL));
                fields += fixed ? 0 : 1;
            }
        }
        bar(tree, "fields of a class: " + fields, fields <= 20);
        return super.visitClass(tree, nothing);
    }

    @Override public Void visitMethod(MethodTree tree, Void nothing) {
        Element was = method;
        method = trees.getElement(getCurrentPath());
        calls.put(method, new LinkedHashSet<>());
        LineMap lines = unit.getLineMap();
        long end = places.getEndPosition(unit, tree);
        if (end >= 0) {
            bar(tree, "a long method", lines.getLineNumber(end) - lineOf(tree) < 60);
        }
        bar(tree, "parameters", tree.getParameters().size() <= 7);
        super.visitMethod(tree, nothing);
        method = was;
        return null;
    }

    @Override public Void visitMethodInvocation(MethodInvocationTree tree, Void nothing) {
        Element called = trees.getElement(getCurrentPath());
        String name = called.getEnclosingElement() + "." + called.getSimpleName();
        if (!name.startsWith("BelowThread")) {
            bar(tree, "library: " + name, LIBRARY.contains(name) || name.equals("java.lang.Object.<init>"));
        } else if (method != null) {
            calls.get(method).add(called);
        }
        return super.visitMethodInvocation(tree, nothing);
    }

    @Override public Void visitNewClass(NewClassTree tree, Void nothing) {
        bar(tree, "a new object outside of the fields", method == null);
        return super.visitNewClass(tree, nothing);
    }

    @Override public Void visitForLoop(ForLoopTree tree, Void nothing) {
        bar(tree, "for without an end", tree.getCondition() != null);
        return super.visitForLoop(tree, nothing);
    }

    @Override public Void visitBinary(BinaryTree tree, Void nothing) {
        if (tree.getKind() == Tree.Kind.PLUS) {
            String type = String.valueOf(trees.getTypeMirror(getCurrentPath()));
            bar(tree, "joined by +", !type.endsWith("String"));
        }
        return super.visitBinary(tree, nothing);
    }

    @Override public Void visitVariable(VariableTree tree, Void nothing) {
        String type = tree.getType() == null ? "var" : tree.getType().toString();
        bar(tree, "type " + type, Set.of("int", "long", "boolean", "char", "int[]", "long[]", "String", "Room", "Reader",
            "Chances", "Course", "Plans", "Day", "Formula").contains(type));
        return super.visitVariable(tree, nothing);
    }

    // ---- how deep calls go, those that come back to themselves counted once

    private void depths() {
        Map<Element, Set<Element>> reach = new HashMap<>();
        for (Element from : calls.keySet()) {
            Set<Element> all = new LinkedHashSet<>();
            gather(from, all);
            reach.put(from, all);
        }
        int deepest = 0;
        for (Element from : calls.keySet()) {
            deepest = Math.max(deepest, depth(from, reach, new HashMap<>()));
        }
        Checks.due("calls go " + deepest + " deep", deepest <= 8, true);
        Set<String> round = new TreeSet<>();
        for (Element from : calls.keySet()) {
            if (reach.get(from).contains(from)) {
                round.add(from.getSimpleName().toString());
            }
        }
        Checks.due("come back to themselves: " + round, round.equals(Set.of("test", "both", "fact", "sum", "product",
            "part", "pair", "packs", "giveOut")), true);
    }

    private void gather(Element from, Set<Element> all) {
        for (Element to : calls.getOrDefault(from, Set.of())) {
            if (all.add(to)) {
                gather(to, all);
            }
        }
    }

    private int depth(Element from, Map<Element, Set<Element>> reach, Map<Element, Integer> known) {
        if (known.containsKey(from)) {
            return known.get(from);
        }
        int behind = 0;
        Set<Element> ring = new LinkedHashSet<>(Set.of(from));
        for (Element to : reach.getOrDefault(from, Set.of())) {
            if (reach.getOrDefault(to, Set.of()).contains(from)) {
                ring.add(to);
            }
        }
        for (Element one : ring) {
            for (Element to : calls.getOrDefault(one, Set.of())) {
                if (!ring.contains(to)) {
                    behind = Math.max(behind, depth(to, reach, known));
                }
            }
        }
        known.put(from, behind + 1);
        return behind + 1;
    }
}
