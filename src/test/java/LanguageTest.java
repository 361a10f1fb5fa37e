import com.sun.source.tree.CompilationUnitTree;
import com.sun.source.util.JavacTask;
import com.sun.source.util.Trees;
import java.lang.reflect.Constructor;
import java.lang.reflect.Field;
import java.lang.reflect.Method;
import java.lang.reflect.Modifier;
import java.nio.file.Files;
import java.nio.file.Path;
import java.util.ArrayList;
import java.util.List;
import java.util.TreeSet;
import java.util.regex.Matcher;
import java.util.regex.Pattern;
import javax.tools.JavaCompiler;
import javax.tools.StandardJavaFileManager;
import javax.tools.ToolProvider;

/** The public face as the document prints it, and the rules of ../shared/LANGUAGE.md by the compiler's own tree. */
public final class LanguageTest {
    private static final Path SOURCE = Path.of("src/main/java/OddColumns.java");
    private static final Path DOCUMENT = Path.of("../shared/DOC.md");
    // The constant, the constructor and 45 methods: promises 1 to 46.
    private static final int FACE_LINES = 47;

    private static int wrong = 0;

    public static void main(String[] args) throws Exception {
        face(Files.readString(DOCUMENT));
        signs(Files.readString(SOURCE));
        rules();
        brokenRules();
        System.out.println(wrong == 0 ? "LanguageTest: as the rules say" : "LanguageTest: " + wrong + " against the rules");
        if (wrong != 0) {
            System.exit(1);
        }
    }

    private static void bad(String what) {
        wrong++;
        System.out.println("LanguageTest: " + what);
    }

    // ---------------------------------------------------------------- the face

    private static void face(String document) {
        Class<?> c = OddColumns.class;
        if (!Modifier.isPublic(c.getModifiers()) || !Modifier.isFinal(c.getModifiers())) {
            bad("the class is not public and final");
        }
        TreeSet<String> due = printedFace(document);
        TreeSet<String> is = faceOf(c);
        if (due.size() != FACE_LINES || !is.equals(due)) {
            bad("the face is " + is + ", due is " + due);
        }
        TreeSet<String> names = new TreeSet<>();
        for (Method m : c.getDeclaredMethods()) {
            if (Modifier.isPublic(m.getModifiers())) {
                names.add(m.getName());
            }
        }
        for (Method m : c.getDeclaredMethods()) {
            if (!Modifier.isPublic(m.getModifiers()) && names.contains(m.getName())) {
                bad("private method " + m.getName() + " bears a public name");
            }
        }
        inside(c, names);
    }

    private static TreeSet<String> printedFace(String document) {
        int from = document.indexOf("```java", document.indexOf("## The public face"));
        String block = document.substring(from, document.indexOf("```", from + 3));
        TreeSet<String> lines = new TreeSet<>();
        Matcher m = Pattern.compile("\n    public ([^;]*);").matcher(block);
        while (m.find()) {
            lines.add(m.group(1).replaceAll("(int|boolean) [a-z]+([,)])", "$1$2").replace(", ", ","));
        }
        return lines;
    }

    private static TreeSet<String> faceOf(Class<?> c) {
        TreeSet<String> is = new TreeSet<>();
        for (Constructor<?> k : c.getDeclaredConstructors()) {
            if (!Modifier.isPrivate(k.getModifiers())) {
                is.add("OddColumns" + parameters(k.getParameterTypes()));
            }
        }
        for (Method m : c.getDeclaredMethods()) {
            if (!Modifier.isPrivate(m.getModifiers())) {
                is.add(m.getReturnType().getSimpleName() + " " + m.getName() + parameters(m.getParameterTypes()));
            }
        }
        for (Field f : c.getDeclaredFields()) {
            if (!Modifier.isPrivate(f.getModifiers())) {
                is.add("static final int " + f.getName() + " = " + OddColumns.NONE);
            }
        }
        return is;
    }

    private static String parameters(Class<?>[] types) {
        List<String> names = new ArrayList<>();
        for (Class<?> t : types) {
            names.add(t.getSimpleName());
        }
        return "(" + String.join(",", names) + ")";
    }

    private static void inside(Class<?> c, TreeSet<String> publicNames) {
        for (Class<?> in : c.getDeclaredClasses()) {
            if (!Modifier.isStatic(in.getModifiers()) || Modifier.isPublic(in.getModifiers())) {
                bad("class " + in + " is not static, or public");
            }
            for (Method m : in.getDeclaredMethods()) {
                if (publicNames.contains(m.getName())) {
                    bad("method " + m + " bears a public name");
                }
            }
        }
    }

    // ---------------------------------------------------------------- the rules

    private static void signs(String source) {
        for (int i = 0; i < source.length(); i++) {
            if (source.charAt(i) > 126) {
                bad("a sign beyond 126 at " + i);
            }
        }
    }

    private static void rules() throws Exception {
        for (String broken : brokenIn(SOURCE)) {
            bad(broken);
        }
    }

    private static List<String> brokenIn(Path source) throws Exception {
        JavaCompiler compiler = ToolProvider.getSystemJavaCompiler();
        try (StandardJavaFileManager files = compiler.getStandardFileManager(null, null, null)) {
            JavacTask task = (JavacTask) compiler.getTask(null, files, null, List.of("-proc:none"), null,
                files.getJavaFileObjects(source));
            Iterable<? extends CompilationUnitTree> units = task.parse();
            task.analyze();
            Rules rules = new Rules(Trees.instance(task));
            for (CompilationUnitTree unit : units) {
                rules.goThrough(unit);
            }
            return rules.broken();
        }
    }

    /** Each of these breaks one rule alone: a rule that sees nothing in it would see nothing in the class. */
    private static final String[][] BROKEN = {
        {"rule 2", "Runnable r() { return () -> { }; }"},
        {"rule 2", "void a() { class Local { } }"},
        {"rule 2", "class Inner { }"},
        {"rule 3", "int[][][] deep;"},
        {"rule 3", "Object any;"},
        {"rule 4", "int a(int i) { return Math.addExact(i, 1); }"},
        {"rule 4", "long a() { return System.nanoTime(); }"},
        {"rule 4", "void a(boolean[] b) { java.util.Arrays.fill(b, true); }"},
        {"rule 5", "static int count;"},
        {"rule 5", "static { }"},
        {"rule 6", "void a() { throw new IllegalArgumentException(); }"},
        {"rule 6", "void a() { try { a2(); } finally { a2(); } } void a2() { }"},
        {"rule 6", "void a(boolean b) { assert b; }"},
        {"rule 6", "boolean a(String s, String t) { return s == t; }"},
        {"rule 6", "public String toString() { return null; }"},
        {"rule 7", "int a(int i) { return 1 / i; }"},
        {"rule 7", "int a(int i) { i %= i; return i; }"},
        {"rule 8", "int a(int i) { return i < 1 ? 0 : b(i - 1); } int b(int i) { return a(i); }"},
        {"rule 9", "void a() { for (;;) { } }"},
        {"rule 9", "void a() { while (true) { } }"},
        {"rule 10", "String a(String s) { return s + s; }"},
        {"rule 11", "void a(int b, int c, int d, int e, int f, int g, int h, int i) { }"},
        {"rule 11", "void a() { b(); } void b() { c(); } void c() { d(); } void d() { e(); } void e() { f(); }"
            + " void f() { g(); } void g() { h(); } void h() { i(); } void i() { }"},
        {"rule 12", "int[] a() { return new int[4]; }"},
    };

    private static void brokenRules() throws Exception {
        Path folder = Files.createTempDirectory("rules");
        Path file = folder.resolve("Broken.java");
        for (String[] one : BROKEN) {
            Files.writeString(file, "final class Broken { " + one[1] + " }\n");
            List<String> broken = brokenIn(file);
            boolean seen = false;
            for (String line : broken) {
                seen |= line.startsWith(one[0] + ":");
            }
            if (!seen) {
                bad(one[0] + " is not seen broken in " + one[1] + ", only " + broken);
            }
        }
        Files.writeString(file, "final class Broken { int a(int i) { return i > 0 ? 7 / i : 7 % 3; } }\n");
        if (!brokenIn(file).isEmpty()) {
            bad("a rule is broken where none is: " + brokenIn(file));
        }
        Files.delete(file);
        Files.delete(folder);
    }
}
