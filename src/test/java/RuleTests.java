import com.sun.source.tree.*;
import com.sun.source.util.JavacTask;
import com.sun.source.util.TreePath;
import com.sun.source.util.TreePathScanner;
import com.sun.source.util.Trees;
import java.io.File;
import java.util.ArrayList;
import java.util.LinkedHashSet;
import java.util.List;
import java.util.Map;
import java.util.Set;
import java.util.TreeMap;
import java.util.TreeSet;
import javax.lang.model.element.Element;
import javax.lang.model.element.ElementKind;
import javax.lang.model.element.Modifier;
import javax.lang.model.type.ArrayType;
import javax.lang.model.type.TypeMirror;
import javax.tools.JavaCompiler;
import javax.tools.StandardJavaFileManager;
import javax.tools.ToolProvider;

/**
 * Rules of LANGUAGE.md for which it must be known what each name of the class stands for: its types, the library's
 * calls, static fields, where objects are made, and how deep calls go.
 */
public final class RuleTests {
    private static final String SOURCE = "src/main/java/SauceredMilk.java";
    private static final String FACE = "SauceredMilk";
    private static final int DEEPEST = 8;
    private static final Set<String> PLAIN_TYPES = Set.of("int", "long", "short", "byte", "char", "boolean", "void");
    private static final Set<String> CONSTANT_TYPES = Set.of("int", "long", "boolean", "char", "java.lang.String");
    private static final Set<String> CONSTANT_ROWS = Set.of("int[]", "long[]", "char[]", "byte[]");
    private static final Map<String, Set<String>> LIBRARY = Map.of(
        "java.lang.Object", Set.of("<init>"),
        "java.lang.System", Set.of("arraycopy"),
        "java.util.Arrays", Set.of("copyOf", "copyOfRange", "fill"),
        "java.lang.Integer", Set.of("compare", "max", "min", "bitCount", "numberOfTrailingZeros"),
        "java.lang.Long", Set.of("compare", "max", "min", "bitCount", "numberOfTrailingZeros"),
        "java.lang.Math", Set.of("max", "min", "abs", "floorDiv", "floorMod"));

    private static int wrong = 0;

    public static void main(String[] args) throws Exception {
        JavaCompiler javac = ToolProvider.getSystemJavaCompiler();
        StandardJavaFileManager files = javac.getStandardFileManager(null, null, null);
        JavacTask task = (JavacTask) javac.getTask(null, files, null, List.of("-proc:none"), null,
            files.getJavaFileObjects(new File(SOURCE)));
        Iterable<? extends CompilationUnitTree> units = task.parse();
        task.analyze();
        Names names = new Names(Trees.instance(task));
        for (CompilationUnitTree unit : units) names.scan(unit, null);
        noNameOfTheFace(names);
        noRecursion(names);
        must(names.calls.size() > 100, "the class's methods were found, not just " + names.calls.size());
        System.out.println("the rules: " + wrong + " faults");
        if (wrong != 0) System.exit(1);
    }

    private static void must(boolean is, String what) {
        if (is) return;
        wrong++;
        System.out.println("not so: " + what);
    }

    // ---- rule 1

    private static void noNameOfTheFace(Names names) {
        for (String method : names.calls.keySet()) {
            String owner = method.substring(0, method.lastIndexOf('#'));
            String name = method.substring(method.lastIndexOf('#') + 1);
            must(owner.equals(FACE) || !names.face.contains(name), "rule 1: " + method + " has a name of its own");
        }
    }

    // ---- rules 8, 11: the call of the face is the first, one of the library may be the last

    private static void noRecursion(Names names) {
        for (String method : names.calls.keySet()) {
            int depth = depth(names, method, new ArrayList<>());
            must(depth <= DEEPEST, "rule 11: calls from " + method + " go " + depth + " deep");
        }
    }

    private static int depth(Names names, String method, List<String> open) {
        if (open.contains(method)) {
            must(false, "rule 8: a recursion without a guard by " + open);
            return 0;
        }
        open.add(method);
        int deepest = 0;
        for (String next : names.calls.getOrDefault(method, Set.of())) {
            deepest = Math.max(deepest, depth(names, next, open));
        }
        open.remove(method);
        return 1 + deepest;
    }

    // ---- rules 3, 4, 5, 12

    private static final class Names extends TreePathScanner<Void, Void> {
        private final Trees trees;
        private final Map<String, Set<String>> calls = new TreeMap<>();
        private final Set<String> face = new TreeSet<>();
        private String inMethod = "";

        Names(Trees trees) {
            this.trees = trees;
        }

        private Element meant() {
            return trees.getElement(getCurrentPath());
        }

        private static boolean isOwn(String type) {
            return type.equals(FACE) || type.startsWith(FACE + ".");
        }

        @Override public Void visitMethod(MethodTree tree, Void nothing) {
            Element method = meant();
            String outer = inMethod;
            inMethod = method.getEnclosingElement() + "#" + method.getSimpleName();
            must(!calls.containsKey(inMethod), "one method alone is named " + inMethod);
            calls.put(inMethod, new LinkedHashSet<>());
            if (method.getModifiers().contains(Modifier.PUBLIC) && method.getKind() == ElementKind.METHOD) {
                face.add(method.getSimpleName().toString());
            }
            super.visitMethod(tree, nothing);
            inMethod = outer;
            return null;
        }

        @Override public Void visitVariable(VariableTree tree, Void nothing) {
            Element variable = meant();
            String type = variable.asType().toString();
            must(isAllowed(variable.asType()), "rule 3: " + variable + " is of type " + type);
            if (variable.getModifiers().contains(Modifier.STATIC)) {
                boolean isRow = CONSTANT_ROWS.contains(type) && tree.getInitializer() instanceof NewArrayTree;
                must(CONSTANT_TYPES.contains(type) || isRow, "rule 5: static " + variable + " is a constant");
            }
            return super.visitVariable(tree, nothing);
        }

        /** Rows of own classes have one dimension, rows of numbers two at most. */
        private static boolean isAllowed(TypeMirror type) {
            if (!(type instanceof ArrayType)) return PLAIN_TYPES.contains(type.toString()) || isOwn(type.toString());
            TypeMirror inside = ((ArrayType) type).getComponentType();
            if (!(inside instanceof ArrayType)) return isAllowed(inside);
            return PLAIN_TYPES.contains(((ArrayType) inside).getComponentType().toString());
        }

        @Override public Void visitMethodInvocation(MethodInvocationTree tree, Void nothing) {
            note(trees.getElement(new TreePath(getCurrentPath(), tree.getMethodSelect())));
            return super.visitMethodInvocation(tree, nothing);
        }

        @Override public Void visitNewClass(NewClassTree tree, Void nothing) {
            note(meant());
            mayMake(tree);
            must(tree.getClassBody() == null, "rule 2: a class that captures nothing has a name: " + tree);
            return super.visitNewClass(tree, nothing);
        }

        @Override public Void visitNewArray(NewArrayTree tree, Void nothing) {
            mayMake(tree);
            return super.visitNewArray(tree, nothing);
        }

        private void note(Element method) {
            String owner = method.getEnclosingElement().toString();
            String name = method.getSimpleName().toString();
            Set<String> made = calls.get(inMethod);
            if (made != null) made.add(owner + "#" + name);
            if (!isOwn(owner)) {
                must(LIBRARY.getOrDefault(owner, Set.of()).contains(name), "rule 4: " + owner + "." + name + " is allowed");
            }
        }

        /** Rows are made once; an IMAGE is made by the first call that keeps it. */
        private void mayMake(Tree tree) {
            boolean isOnce = inMethod.isEmpty() || inMethod.endsWith("#<init>") || inMethod.equals(FACE + "#image");
            must(isOnce, "rule 12: " + inMethod + " makes nothing, such as " + tree);
        }

        @Override public Void visitWhileLoop(WhileLoopTree tree, Void nothing) {
            must(false, "rule 9: the class counts all its loops: " + tree.getCondition());
            return super.visitWhileLoop(tree, nothing);
        }

        @Override public Void visitForLoop(ForLoopTree tree, Void nothing) {
            must(tree.getCondition() != null && tree.getUpdate().size() == 1 && tree.getInitializer().size() == 1,
                "rule 9: a loop counts against a bound: " + tree.getCondition());
            return super.visitForLoop(tree, nothing);
        }
    }
}
