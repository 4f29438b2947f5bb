import com.sun.management.ThreadMXBean;
import com.sun.source.tree.*;
import com.sun.source.util.JavacTask;
import com.sun.source.util.TreeScanner;
import java.io.File;
import java.lang.management.ManagementFactory;
import java.lang.reflect.Constructor;
import java.lang.reflect.Field;
import java.lang.reflect.Method;
import java.lang.reflect.Modifier;
import java.util.Arrays;
import java.util.List;
import java.util.Random;
import java.util.TreeSet;
import javax.lang.model.element.Name;
import javax.tools.JavaCompiler;
import javax.tools.StandardJavaFileManager;
import javax.tools.ToolProvider;

/** The document's face, the rules of LANGUAGE.md that can be seen from the text, wild arguments, and the room. */
public final class FormTests {
    private static final String SOURCE = "src/main/java/SauceredMilk.java";
    private static final String[] FACE = {
        "int witness(int,int,boolean,int)", "int he(int,int,int)", "int way(int,int,boolean)", "int milk(int)",
        "int say(int)", "int wipe()", "int fault()", "int judge(int)", "int done()", "int behind(int,int)",
        "int then(int)", "int lasts(int)", "int trials(int,int,int)", "int round(int,int,int)",
        "int shun(int,int,int)", "int apart(int,int)", "int row(int,int,int)", "int seen(int,boolean,int)",
        "int forget()", "int so(int)", "int ask(int)", "int jugs(int,int,int)", "long odds(int,int,int,int,int)",
        "int year(int,int,int)", "int image(int)", "int restore(int)", "int told(int)"};
    private static final String[] CONSTANTS = {"NONE", "UNKNOWN", "OUTSIDE", "STATE", "FULL", "NO", "LOST"};
    private static final int CALLS = 512;
    private static final int MOST_BYTES = 64 * 1024;

    private static int wrong = 0;

    public static void main(String[] args) throws Exception {
        face();
        text();
        wildArguments();
        room();
        System.out.println("the form: " + wrong + " faults");
        if (wrong != 0) System.exit(1);
    }

    private static void must(boolean is, String what) {
        if (is) return;
        wrong++;
        System.out.println("not so: " + what);
    }

    // ---- rule 1

    private static void face() {
        Class<?> c = SauceredMilk.class;
        must(c.getModifiers() == (Modifier.PUBLIC | Modifier.FINAL), "the class is public and final");
        must(c.getSuperclass() == Object.class && c.getInterfaces().length == 0, "the class stands alone");
        TreeSet<String> methods = new TreeSet<>();
        TreeSet<String> names = new TreeSet<>();
        for (String signature : FACE) names.add(signature.substring(signature.indexOf(' ') + 1, signature.indexOf('(')));
        for (Method m : c.getDeclaredMethods()) {
            if (Modifier.isPrivate(m.getModifiers())) {
                must(!names.contains(m.getName()), "private method " + m.getName() + " has a name of its own");
            } else if (!m.isSynthetic()) {
                must(m.getModifiers() == Modifier.PUBLIC, m + " is public and no more");
                methods.add(signature(m));
            }
        }
        must(methods.equals(new TreeSet<>(Arrays.asList(FACE))), "the methods are those of the document: " + methods);
        Constructor<?>[] constructors = c.getDeclaredConstructors();
        must(constructors.length == 1 && constructors[0].getModifiers() == Modifier.PUBLIC
            && constructors[0].getParameterCount() == 0, "one public constructor without parameters");
        fields(c);
        for (Class<?> inner : c.getDeclaredClasses()) {
            must(Modifier.isStatic(inner.getModifiers()) && !Modifier.isPublic(inner.getModifiers())
                && !Modifier.isProtected(inner.getModifiers()), inner + " is static and not seen from outside");
        }
    }

    private static String signature(Method m) {
        StringBuilder text = new StringBuilder(m.getReturnType().getName() + " " + m.getName() + "(");
        for (Class<?> parameter : m.getParameterTypes()) {
            if (text.charAt(text.length() - 1) != '(') text.append(',');
            text.append(parameter.getName());
        }
        return text.append(')').toString();
    }

    private static void fields(Class<?> c) {
        TreeSet<String> seen = new TreeSet<>();
        int constant = Modifier.PUBLIC | Modifier.STATIC | Modifier.FINAL;
        for (Field f : c.getDeclaredFields()) {
            if (Modifier.isPrivate(f.getModifiers())) continue;
            must(f.getModifiers() == constant, f + " is a constant");
            must(f.getType() == (f.getName().equals("LOST") ? long.class : int.class), f + " has its type");
            seen.add(f.getName());
        }
        must(seen.equals(new TreeSet<>(Arrays.asList(CONSTANTS))), "the constants are those of the document: " + seen);
    }

    // ---- rules 2 to 6, 11

    private static void text() throws Exception {
        JavaCompiler javac = ToolProvider.getSystemJavaCompiler();
        StandardJavaFileManager files = javac.getStandardFileManager(null, null, null);
        JavacTask task = (JavacTask) javac.getTask(null, files, null, null, null, files.getJavaFileObjects(new File(SOURCE)));
        for (CompilationUnitTree unit : task.parse()) {
            must(unit.getPackageName() == null, "no package line");
            must(unit.getTypeDecls().size() == 1, "one class in the file");
            new Rules(unit).scan(unit, null);
        }
    }

    private static final class Rules extends TreeScanner<Void, Void> {
        private static final List<String> IMPORTS = List.of("java.util.ArrayList", "java.util.Arrays", "java.util.List");
        private final CompilationUnitTree unit;
        private int classes = 0;

        Rules(CompilationUnitTree unit) {
            this.unit = unit;
        }

        @Override public Void scan(Tree tree, Void nothing) {
            if (tree != null) kind(tree);
            return super.scan(tree, nothing);
        }

        private void kind(Tree tree) {
            switch (tree.getKind()) {
                case LAMBDA_EXPRESSION: case MEMBER_REFERENCE: case SYNCHRONIZED: case ASSERT: case TRY: case THROW:
                case ANNOTATION: case STRING_LITERAL: case TYPE_CAST: case INSTANCE_OF:
                    boolean isCastToNumber = tree instanceof TypeCastTree
                        && ((TypeCastTree) tree).getType().getKind() == Tree.Kind.PRIMITIVE_TYPE;
                    must(isCastToNumber, "the class does without " + tree.getKind() + ": " + tree);
                    break;
                default: break;
            }
        }

        @Override public Void visitImport(ImportTree tree, Void nothing) {
            must(IMPORTS.contains(tree.getQualifiedIdentifier().toString()), "import of " + tree.getQualifiedIdentifier());
            return super.visitImport(tree, nothing);
        }

        @Override public Void visitClass(ClassTree tree, Void nothing) {
            classes++;
            must(classes <= 12, "twelve classes at most");
            int fields = 0;
            for (Tree member : tree.getMembers()) {
                must(!(member instanceof BlockTree), "no initialiser block in " + tree.getSimpleName());
                if (!(member instanceof VariableTree)) continue;
                ModifiersTree modifiers = ((VariableTree) member).getModifiers();
                boolean isStatic = modifiers.getFlags().contains(javax.lang.model.element.Modifier.STATIC);
                boolean isFinal = modifiers.getFlags().contains(javax.lang.model.element.Modifier.FINAL);
                must(!isStatic || isFinal, "static " + member + " is final");
                if (!isStatic) fields++;
            }
            must(fields <= 20, "twenty fields at most in " + tree.getSimpleName());
            return super.visitClass(tree, nothing);
        }

        @Override public Void visitMethod(MethodTree tree, Void nothing) {
            Name name = tree.getName();
            must(tree.getParameters().size() <= 7, "seven parameters at most in " + name);
            must(tree.toString().split("\n").length <= 60, "sixty lines at most in " + name);
            return super.visitMethod(tree, nothing);
        }

        @Override public Void visitPrimitiveType(PrimitiveTypeTree tree, Void nothing) {
            String type = tree.getPrimitiveTypeKind().toString();
            must(!type.equals("DOUBLE") && !type.equals("FLOAT"), "whole numbers alone in " + unit.getSourceFile().getName());
            return super.visitPrimitiveType(tree, nothing);
        }
    }

    // ---- rule 7

    private static void wildArguments() throws Exception {
        Method[] methods = SauceredMilk.class.getMethods();
        Arrays.sort(methods, (a, b) -> a.getName().compareTo(b.getName()));
        for (int seed = 0; seed < 60; seed++) {
            Random random = new Random(seed);
            SauceredMilk x = new SauceredMilk();
            for (int i = 0; i < CALLS; i++) {
                Method m = methods[random.nextInt(methods.length)];
                if (m.getDeclaringClass() != SauceredMilk.class) continue;
                callWildly(x, m, random);
            }
        }
    }

    private static void callWildly(SauceredMilk x, Method m, Random random) {
        Object[] arguments = new Object[m.getParameterCount()];
        for (int i = 0; i < arguments.length; i++) {
            arguments[i] = m.getParameterTypes()[i] == boolean.class ? (Object) random.nextBoolean() : (Object) wild(random);
        }
        try {
            m.invoke(x, arguments);
        } catch (ReflectiveOperationException e) {
            must(false, m.getName() + Arrays.toString(arguments) + " does not throw " + e.getCause());
        }
    }

    private static int wild(Random random) {
        switch (random.nextInt(8)) {
            case 0: return random.nextInt();
            case 1: return Integer.MIN_VALUE + random.nextInt(3);
            case 2: return Integer.MAX_VALUE - random.nextInt(3);
            case 3: return random.nextInt(300) - 100;
            case 4: return 33 + random.nextInt(94);
            default: return random.nextInt(14) - 1;
        }
    }

    // ---- the room: calls make nothing, but for the two images, each once

    private static void room() {
        ThreadMXBean thread = (ThreadMXBean) ManagementFactory.getThreadMXBean();
        long most = 0;
        for (int round = 0; round < 3; round++) {
            long before = thread.getThreadAllocatedBytes(Thread.currentThread().getId());
            manyCalls(new SauceredMilk());
            most = thread.getThreadAllocatedBytes(Thread.currentThread().getId()) - before;
        }
        must(most <= MOST_BYTES, "a whole run takes " + MOST_BYTES + " bytes at most, not " + most);
    }

    private static void manyCalls(SauceredMilk x) {
        for (int i = 0; i < 8; i++) x.witness(i, i, i % 2 == 0, 90);
        for (int i = 0; i < 11; i++) x.way(i, i + 1, true);
        x.milk(0b101010101010);
        for (int i = 0; i < 20; i++) x.say('.');
        for (int i = 0; i < 20; i++) {
            x.trials(99, 20, 1); x.round(0, 11, 1); x.shun(0, 11, 1); x.apart(40, 11); x.row(25, 8, 4000);
            x.seen(0, true, 17); x.so(0); x.ask(0); x.ask(1); x.jugs(99, 61, 1); x.odds(9, 9, 15, 3, 1);
            x.year(i, 99, 1); x.image(i % 2); x.restore(i % 2); x.judge(0); x.behind(0, 0); x.then(5); x.lasts(1);
            x.told(2); x.told(102); x.fault();
        }
    }
}
