import com.sun.source.tree.*;
import com.sun.source.util.JavacTask;
import com.sun.source.util.TreeScanner;
import java.io.File;
import java.io.IOException;
import java.util.ArrayList;
import java.util.HashMap;
import java.util.HashSet;
import java.util.List;
import java.util.Map;
import java.util.Set;
import javax.lang.model.element.Modifier;
import javax.tools.JavaCompiler;
import javax.tools.StandardJavaFileManager;
import javax.tools.ToolProvider;

/** What of LANGUAGE.md can be seen in the source of the class: its rules by their numbers. */
public final class LanguageTest {
    private static final String SOURCE = "src/main/java/TopStreet.java";
    private static final Set<Tree.Kind> RULED_OUT = Set.of(Tree.Kind.THROW, Tree.Kind.TRY, Tree.Kind.CATCH,
        Tree.Kind.SYNCHRONIZED, Tree.Kind.ASSERT, Tree.Kind.LAMBDA_EXPRESSION, Tree.Kind.MEMBER_REFERENCE,
        Tree.Kind.IMPORT, Tree.Kind.PACKAGE, Tree.Kind.ANNOTATION, Tree.Kind.WHILE_LOOP, Tree.Kind.DO_WHILE_LOOP);
    private static final Set<String> LIBRARY = Set.of("Math.max", "Math.min", "Integer.bitCount",
        "System.arraycopy", "SORTS.indexOf");

    private static final Map<String, Set<String>> CALLS = new HashMap<>();
    private static final Set<String> FACE = new HashSet<>();
    private static final List<String> METHODS = new ArrayList<>();
    private static LineMap lines;
    private static CompilationUnitTree unit;
    private static com.sun.source.util.SourcePositions places;
    private static int classes = 0;

    public static void main(String[] args) throws IOException {
        JavaCompiler compiler = ToolProvider.getSystemJavaCompiler();
        StandardJavaFileManager files = compiler.getStandardFileManager(null, null, null);
        JavacTask task = (JavacTask) compiler.getTask(null, files, null, null, null,
            files.getJavaFileObjects(new File(SOURCE)));
        unit = task.parse().iterator().next();
        lines = unit.getLineMap();
        places = com.sun.source.util.Trees.instance(task).getSourcePositions();
        unit.accept(new Look(), null);
        Due.is("rule 11: classes above 12", 0, Math.max(0, classes - 12));
        for (String name : METHODS) {
            Due.is("rule 1: the face's name used again: " + name, 0, FACE.contains(name) ? 1 : 0);
        }
        for (String name : FACE) {
            Due.is("rule 11: calls above eight deep from " + name, 0, Math.max(0, depth(name, new HashSet<>()) - 8));
        }
        Due.is("methods of the face", 36, FACE.size());
        Due.end("LanguageTest");
    }

    private static int depth(String name, Set<String> open) {
        int deepest = 0;
        if (open.add(name)) {
            for (String called : CALLS.getOrDefault(name, Set.of())) {
                deepest = Math.max(deepest, open.contains(called) ? 0 : depth(called, open));
            }
            open.remove(name);
        }
        return deepest + 1;
    }

    private static void rule(String what, boolean kept, Tree at) {
        long line = lines.getLineNumber(places.getStartPosition(unit, at));
        Due.is("line " + line + ", " + what, 0, kept ? 0 : 1);
    }

    private static final class Look extends TreeScanner<Void, Void> {
        private String method = "";
        private boolean making = true;
        private int depthOfClasses = 0;

        @Override public Void scan(Tree tree, Void v) {
            if (tree != null) {
                rule("rules 2, 6, 9: " + tree.getKind(), !RULED_OUT.contains(tree.getKind()), tree);
            }
            return super.scan(tree, v);
        }

        @Override public Void visitClass(ClassTree tree, Void v) {
            classes++;
            Set<Modifier> m = tree.getModifiers().getFlags();
            rule("rule 2: a class inside is static", depthOfClasses == 0 || m.contains(Modifier.STATIC), tree);
            int fields = 0;
            for (Tree member : tree.getMembers()) {
                if (member instanceof VariableTree field) {
                    Set<Modifier> f = field.getModifiers().getFlags();
                    fields += f.contains(Modifier.STATIC) ? 0 : 1;
                    rule("rule 5: statics are final",
                        !f.contains(Modifier.STATIC) || f.contains(Modifier.FINAL), field);
                    rule("rule 1: fields of the face's class are private", depthOfClasses > 0
                        || f.contains(Modifier.PRIVATE) || f.contains(Modifier.PUBLIC), field);
                }
            }
            rule("rule 11: some twenty fields", fields <= 20, tree);
            depthOfClasses++;
            super.visitClass(tree, v);
            depthOfClasses--;
            return null;
        }

        @Override public Void visitMethod(MethodTree tree, Void v) {
            long from = lines.getLineNumber(places.getStartPosition(unit, tree));
            long to = lines.getLineNumber(places.getEndPosition(unit, tree));
            String name = tree.getName().toString();
            rule("rule 11: some sixty lines", to - from < 60, tree);
            rule("rule 11: seven parameters", tree.getParameters().size() <= 7, tree);
            making = name.equals("<init>");
            method = name;
            CALLS.putIfAbsent(name, new HashSet<>());
            boolean open = tree.getModifiers().getFlags().contains(Modifier.PUBLIC);
            if (!making) {
                if (open) {
                    FACE.add(name);
                } else {
                    METHODS.add(name);
                }
            }
            super.visitMethod(tree, v);
            making = true;
            method = "";
            return null;
        }

        @Override public Void visitNewClass(NewClassTree tree, Void v) {
            rule("rule 12: objects are made by constructors", making, tree);
            return super.visitNewClass(tree, v);
        }

        @Override public Void visitNewArray(NewArrayTree tree, Void v) {
            rule("rule 12: arrays are made by constructors", making, tree);
            return super.visitNewArray(tree, v);
        }

        @Override public Void visitMethodInvocation(MethodInvocationTree tree, Void v) {
            String called = tree.getMethodSelect().toString();
            String name = called.substring(called.lastIndexOf('.') + 1);
            boolean library = Character.isUpperCase(called.charAt(0)) && !called.startsWith("Foretold.");
            rule("rule 4: " + called, !library || LIBRARY.contains(called), tree);
            if (!library && !name.equals("super")) {
                CALLS.computeIfAbsent(method, k -> new HashSet<>()).add(name);
            }
            return super.visitMethodInvocation(tree, v);
        }
    }
}
