import java.io.StringWriter;
import java.lang.reflect.InvocationTargetException;
import java.net.URI;
import java.net.URL;
import java.net.URLClassLoader;
import java.nio.file.Files;
import java.nio.file.Path;
import java.util.List;
import java.util.regex.Matcher;
import java.util.regex.Pattern;
import javax.tools.JavaCompiler;
import javax.tools.SimpleJavaFileObject;
import javax.tools.ToolProvider;

/** What README.md shows of the use of the class is compiled and run as it stands there, and each call answers what its comment says. */
public final class ReadmeTest {
    private static int wrong = 0;

    private static void must(boolean is, String what) {
        if (is) return;
        wrong++;
        System.out.println("README.md: " + what);
    }

    /** What stands between the first line with three ticks and the word, and the next three ticks. */
    private static String block(String text, String word) {
        Matcher m = Pattern.compile("(?s)```" + word + "\n(.*?)```").matcher(text);
        must(m.find(), "a block of " + word);
        return m.group(1);
    }

    /** The lines as they stand, but that each call's answer is asked for behind it. */
    private static String program(String lines) {
        StringBuilder b = new StringBuilder("public final class Shown {\n    public static void main(String[] args) {\n");
        int asked = 0;
        for (String line : lines.split("\n")) {
            Matcher m = Pattern.compile("(?:int (\\w+) = )?(tables\\.[^;]*); *// (-?[0-9]+)(?:: .*)?").matcher(line);
            if (m.matches()) {
                asked++;
                String name = m.group(1) == null ? "answer" + asked : m.group(1);
                b.append("int ").append(name).append(" = ").append(m.group(2)).append(";\n");
                b.append("if (").append(name).append(" != ").append(m.group(3)).append(") throw new AssertionError(\"").append(m.group(2)).append(" answers \" + ").append(name).append(");\n");
            } else {
                must(line.equals("ScribeTables tables = new ScribeTables();"), "a call without its answer: " + line);
                b.append(line).append('\n');
            }
        }
        must(asked > 10, "calls with their answers");
        return b.append("    }\n}\n").toString();
    }

    private static void run(String program) throws Exception {
        Path out = Files.createTempDirectory("readme");
        JavaCompiler compiler = ToolProvider.getSystemJavaCompiler();
        StringWriter told = new StringWriter();
        SimpleJavaFileObject source = new SimpleJavaFileObject(URI.create("string:///Shown.java"), SimpleJavaFileObject.Kind.SOURCE) {
            @Override
            public CharSequence getCharContent(boolean ignoreErrors) {
                return program;
            }
        };
        List<String> options = List.of("-d", out.toString(), "-cp", System.getProperty("java.class.path"));
        boolean compiled = compiler.getTask(told, null, null, options, null, List.of(source)).call();
        must(compiled, "it doesn't compile: " + told);
        if (compiled) {
            try (URLClassLoader loader = new URLClassLoader(new URL[] {out.toUri().toURL()})) {
                loader.loadClass("Shown").getMethod("main", String[].class).invoke(null, (Object) new String[0]);
            } catch (InvocationTargetException e) {
                must(false, e.getCause().toString());
            }
        }
        Files.deleteIfExists(out.resolve("Shown.class"));
        Files.deleteIfExists(out);
    }

    /** What is told of where the tests are. */
    private static void named(String text) throws Exception {
        for (String name : List.of("PromiseTest", "ModelRuns", "FaceTest", "ReadmeTest", "Sentences")) {
            must(text.contains("src/test/java/" + name + ".java"), "tells of " + name);
            must(Files.exists(Path.of("src/test/java/" + name + ".java")), name + " is there");
        }
        must(block(text, "sh").contains("src/main/java/ScribeTables.java src/test/java/ModelRuns.java"), "tells how one test is run");
        must(Files.isExecutable(Path.of(".ci/run")), ".ci/run can be run");
    }

    public static void main(String[] args) throws Exception {
        String text = Files.readString(Path.of("README.md"));
        run(program(block(text, "java")));
        named(text);
        System.out.println(wrong == 0 ? "what README.md shows is so" : wrong + " things are not as README.md says");
        if (wrong != 0) System.exit(1);
    }
}
