import java.lang.reflect.Method;
import java.lang.reflect.Modifier;
import java.net.URL;
import java.net.URLClassLoader;
import java.nio.file.Files;
import java.nio.file.Path;
import java.util.ArrayList;
import java.util.List;
import java.util.regex.Matcher;
import java.util.regex.Pattern;
import java.util.stream.Stream;
import javax.tools.ToolProvider;

/** What README.md shows compiles and answers as it says there; no call of the face and no test is left out. */
public final class ReadmeTest {
    private static final int LEAST_ANSWERS = 25;
    private static int wrong = 0;

    public static void main(String[] args) throws Exception {
        String readme = Files.readString(Path.of("README.md"));
        namesEveryCall(readme);
        namesEveryTest(readme);
        runExamples(readme);
        System.out.println(wrong == 0 ? "ReadmeTest: as README.md says" : "ReadmeTest: " + wrong + " not as README.md says");
        if (wrong != 0) {
            System.exit(1);
        }
    }

    private static void bad(String what) {
        wrong++;
        System.out.println("ReadmeTest: " + what);
    }

    /** The table has each call once, with its promise and as many arguments as it takes. */
    private static void namesEveryCall(String readme) throws Exception {
        String document = Files.readString(Path.of("../shared/DOC.md"));
        String table = readme.substring(readme.indexOf("### All calls"), readme.indexOf("## Tests"));
        for (Method method : OddColumns.class.getDeclaredMethods()) {
            if (Modifier.isPublic(method.getModifiers())) {
                inTable(method, table, document);
            }
        }
    }

    private static void inTable(Method method, String table, String document) {
        String name = method.getName();
        Matcher line = Pattern.compile("(?m)^\\|.*`" + name + "\\(([^)]*)\\)`.*$").matcher(table);
        Matcher promise = Pattern.compile("## Promise ([0-9]+): " + name + "\n").matcher(document);
        if (!line.find() || !promise.find()) {
            bad("no line, or no promise, of " + name);
            return;
        }
        String arguments = line.group(1);
        int takes = arguments.isEmpty() ? 0 : arguments.split(",").length;
        if (takes != method.getParameterCount()) {
            bad(name + " takes " + method.getParameterCount() + " arguments");
        }
        if (!line.group().split("\\|")[2].matches(".*\\b" + promise.group(1) + "\\b.*")) {
            bad(name + " is promise " + promise.group(1));
        }
    }

    private static void namesEveryTest(String readme) throws Exception {
        String tests = readme.substring(readme.indexOf("## Tests"));
        try (Stream<Path> files = Files.list(Path.of("src/test/java"))) {
            for (Path file : (Iterable<Path>) files::iterator) {
                String name = file.getFileName().toString().replace(".java", "");
                if (name.endsWith("Test") && !tests.contains("`" + name + "`")) {
                    bad("no word of " + name);
                }
            }
        }
    }

    // A statement with a comment that begins with an answer becomes a question of that answer.
    private static String asProgram(String readme) {
        StringBuilder members = new StringBuilder();
        StringBuilder statements = new StringBuilder();
        Matcher block = Pattern.compile("(?s)```java\n(.*?)```").matcher(readme);
        while (block.find()) {
            if (block.group(1).startsWith("static ")) {
                members.append(block.group(1));
                continue;
            }
            for (String line : block.group(1).split("\n")) {
                Matcher question = Pattern.compile("(.*\\));\\s*// (true|false|-?[0-9]+)(:.*)?").matcher(line);
                boolean asked = question.matches() && !line.contains("=");
                String call = asked ? question.group(1) : "";
                statements.append(asked ? "due(" + quoted(call) + ", " + call + ", " + question.group(2) + ");" : line).append('\n');
            }
        }
        return "public final class Shown {\n public static final java.util.List<String> ANSWERS = new java.util.ArrayList<>();\n"
            + " static void due(String call, Object is, Object due) { ANSWERS.add(is.equals(due) ? \"\" : call + \" is \" + is"
            + " + \", README.md says \" + due); }\n" + members + " public static void show() {\n" + statements + " }\n}\n";
    }

    private static String quoted(String text) {
        return "\"" + text.replace("\\", "\\\\").replace("\"", "\\\"") + "\"";
    }

    private static void runExamples(String readme) throws Exception {
        Path folder = Files.createTempDirectory("readme");
        Path source = folder.resolve("Shown.java");
        Files.writeString(source, asProgram(readme));
        int result = ToolProvider.getSystemJavaCompiler().run(null, null, null, "-proc:none", "-cp",
            System.getProperty("java.class.path"), "-d", folder.toString(), source.toString());
        if (result != 0) {
            bad("what it shows does not compile");
        } else {
            judge(answersOf(folder));
        }
        try (Stream<Path> files = Files.list(folder)) {
            for (Path file : (Iterable<Path>) files::iterator) {
                Files.delete(file);
            }
        }
        Files.delete(folder);
    }

    private static List<String> answersOf(Path folder) throws Exception {
        List<String> answers = new ArrayList<>();
        try (URLClassLoader loader = new URLClassLoader(new URL[] {folder.toUri().toURL()})) {
            Class<?> shown = loader.loadClass("Shown");
            shown.getMethod("show").invoke(null);
            for (Object answer : (List<?>) shown.getField("ANSWERS").get(null)) {
                answers.add(answer.toString());
            }
        }
        return answers;
    }

    private static void judge(List<String> answers) {
        if (answers.size() < LEAST_ANSWERS) {
            bad("it shows " + answers.size() + " answers alone");
        }
        for (String answer : answers) {
            if (!answer.isEmpty()) {
                bad(answer);
            }
        }
    }
}
