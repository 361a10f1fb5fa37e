import java.lang.reflect.Constructor;
import java.lang.reflect.Field;
import java.lang.reflect.Method;
import java.lang.reflect.Modifier;
import java.nio.file.Files;
import java.nio.file.Path;
import java.util.ArrayList;
import java.util.List;
import java.util.TreeSet;
import java.util.regex.Matcher;
import java.util.regex.Pattern;

/** The public face by reflection, and what ../shared/LANGUAGE.md rules out that can be seen in the text. */
public final class LanguageTest {
    private static final String FACE = "int NONE; OddColumns(); int feed(int,int,int,int,int); int end(int); int code(); int fault(int);"
        + " boolean write(int,int); int part(int,int,int); int mend(int); int scrub(); int slip(int,int);"
        + " boolean burst(int,int,int); int storm(int,int,int); boolean stick(int,int,int); int free(int);"
        + " boolean column(int,int); boolean swap(int,int); boolean way(int); boolean pairs(boolean); int better();"
        + " boolean undo(); boolean redo(); int columnOf(int); int row(int,int); int rows(int); int word(int,int);"
        + " int reading(int,int); int stuck(int,int); int stands(int,int); int find(int,int); int threes(int);"
        + " int fours(); int twos(int); int change(int); int gates(int); int shared(int,int); int chip(int,int);"
        + " int exchange(int); int fewest(int); int columns(int,int); int would(int,int,int); int worst(int,int,int);"
        + " int interval(int,int); int tally(int); int image(int); int back(int); int about(int)";

    private static final String[] RULED_OUT = {
        "\\bthrow\\b", "\\bthrows\\b", "\\btry\\b", "\\bcatch\\b", "\\bfinally\\b", "\\bsynchronized\\b", "\\bassert\\b",
        "->", "::", "\\bExact\\b", "\\bjava\\.(?!util\\.Arrays;)", "\\bSystem\\.(?!arraycopy)", "\\bpackage\\b",
        "\\bvolatile\\b", "\\bnew [A-Za-z]+\\([^)]*\\) *\\{", "\\bequals\\(", "\\bhashCode\\b", "\\btoString\\b", "\\bvar\\b",
        "\\[\\]\\[\\]\\[\\]", "\\bMath\\.random", "\\bThread\\b", "static *\\{", "\\bInteger\\.(?!bitCount)", "\\bArrays\\.(?!fill)",
    };

    private static int wrong = 0;

    public static void main(String[] args) throws Exception {
        face();
        String source = Files.readString(Path.of("src/main/java/OddColumns.java"));
        text(source);
        lengths(source);
        System.out.println(wrong == 0 ? "LanguageTest: as the rules say" : "LanguageTest: " + wrong + " against the rules");
        if (wrong != 0) {
            System.exit(1);
        }
    }

    private static void bad(String what) {
        wrong++;
        System.out.println("LanguageTest: " + what);
    }

    private static void face() {
        TreeSet<String> due = new TreeSet<>(List.of(FACE.split("; ")));
        TreeSet<String> is = new TreeSet<>();
        TreeSet<String> publicNames = new TreeSet<>();
        Class<?> c = OddColumns.class;
        if (!Modifier.isPublic(c.getModifiers()) || !Modifier.isFinal(c.getModifiers())) {
            bad("the class is not public and final");
        }
        for (Constructor<?> k : c.getDeclaredConstructors()) {
            if (!Modifier.isPrivate(k.getModifiers())) {
                is.add("OddColumns" + parameters(k.getParameterTypes()));
            }
        }
        for (Method m : c.getDeclaredMethods()) {
            if (!Modifier.isPrivate(m.getModifiers())) {
                is.add(m.getReturnType().getSimpleName() + " " + m.getName() + parameters(m.getParameterTypes()));
                publicNames.add(m.getName());
            }
        }
        for (Field f : c.getDeclaredFields()) {
            if (!Modifier.isPrivate(f.getModifiers())) {
                is.add(f.getType().getSimpleName() + " " + f.getName());
            }
            if (Modifier.isStatic(f.getModifiers()) && !Modifier.isFinal(f.getModifiers())) {
                bad("static field " + f.getName() + " can change");
            }
        }
        if (!is.equals(due)) {
            bad("the face is " + is + ", due is " + due);
        }
        for (Method m : c.getDeclaredMethods()) {
            if (Modifier.isPrivate(m.getModifiers()) && publicNames.contains(m.getName())) {
                bad("private method " + m.getName() + " bears a public name");
            }
        }
        inside(c, publicNames);
    }

    private static void inside(Class<?> c, TreeSet<String> publicNames) {
        if (c.getDeclaredClasses().length > 11) {
            bad("too many classes");
        }
        for (Class<?> in : c.getDeclaredClasses()) {
            if (!Modifier.isStatic(in.getModifiers()) || Modifier.isPublic(in.getModifiers())) {
                bad("class " + in + " is not static, or public");
            }
            int fields = 0;
            for (Field f : in.getDeclaredFields()) {
                fields += Modifier.isStatic(f.getModifiers()) ? 0 : 1;
            }
            if (fields > 20) {
                bad("class " + in + " has " + fields + " fields");
            }
            for (Method m : in.getDeclaredMethods()) {
                if (publicNames.contains(m.getName()) || m.getParameterCount() > 7) {
                    bad("method " + m);
                }
            }
        }
    }

    private static String parameters(Class<?>[] types) {
        List<String> names = new ArrayList<>();
        for (Class<?> t : types) {
            names.add(t.getSimpleName());
        }
        return "(" + String.join(",", names) + ")";
    }

    private static void text(String source) {
        String bare = source.replaceAll("//[^\n]*", "").replaceAll("(?s)/\\*.*?\\*/", "");
        for (String pattern : RULED_OUT) {
            Matcher m = Pattern.compile(pattern).matcher(bare);
            if (m.find()) {
                bad("has " + pattern + ": " + m.group());
            }
        }
        for (int i = 0; i < source.length(); i++) {
            if (source.charAt(i) > 126) {
                bad("a sign beyond 126 at " + i);
            }
        }
        // Rows are made with their objects, so that no call makes any.
        Matcher m = Pattern.compile("\n *+(?!final|private final)[^\n]*\\bnew\\b[^\n]*").matcher(bare);
        while (m.find()) {
            String line = m.group().trim();
            if (!line.matches("(script|timeline|boxes|boxIsFull|read|searcher|sharing|draft|trialWords|states|states\\[i\\]) = .*")) {
                bad("makes an object outside a constructor: " + line);
            }
        }
    }

    private static void lengths(String source) {
        String[] lines = source.split("\n");
        int start = -1;
        String indent = "";
        for (int i = 0; i < lines.length; i++) {
            Matcher m = Pattern.compile("( {4}| {8})(?! )(?!private static final class).*\\) \\{").matcher(lines[i]);
            if (start < 0 && m.matches()) {
                start = i;
                indent = m.group(1);
            } else if (start >= 0 && lines[i].equals(indent + "}")) {
                if (i - start > 60) {
                    bad("a long method: " + lines[start].trim());
                }
                start = -1;
            }
        }
    }
}
