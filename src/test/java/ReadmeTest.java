import java.io.StringWriter;
import java.lang.reflect.Method;
import java.lang.reflect.Modifier;
import java.net.URL;
import java.net.URLClassLoader;
import java.nio.file.Files;
import java.nio.file.Path;
import java.util.ArrayList;
import java.util.List;
import java.util.regex.Matcher;
import java.util.regex.Pattern;
import javax.tools.JavaCompiler;
import javax.tools.ToolProvider;

/** What README.md shows is compiled and run: each call there with the answer behind it. */
public final class ReadmeTest {
    private static final Pattern CALL = Pattern.compile("(x\\.\\w+\\([^)]*\\)); +// (-?\\d+|true|false)\\b.*");

    /** The calls of the README that were run, and their answers; filled by the compiled lines. */
    public static final List<String> CALLS = new ArrayList<>();
    public static final List<String> ANSWERS = new ArrayList<>();

    public static void answer(String call, Object got) {
        CALLS.add(call);
        ANSWERS.add(got.toString());
    }

    public static void main(String[] args) throws Exception {
        Check c = new Check("README.md");
        String readme = Files.readString(Path.of("README.md"));
        example(c, readme);
        tableNamesAll(c, readme);
        Check.end("ReadmeTest");
    }

    private static void example(Check c, String readme) throws Exception {
        List<String> blocks = javaBlocks(readme);
        c.due("blocks of Java", blocks.size(), 2);
        List<String> due = new ArrayList<>();
        StringBuilder lines = new StringBuilder();
        for (String line : blocks.get(1).split("\n")) {
            Matcher call = CALL.matcher(line);
            boolean answers = call.matches();
            c.due("a call has its answer behind it: " + line, line.startsWith("x."), answers);
            if (answers) {
                due.add(call.group(2));
                lines.append("ReadmeTest.answer(\"").append(call.group(1)).append("\", ").append(call.group(1)).append(");\n");
            } else {
                lines.append(line).append('\n');
            }
        }
        run("public final class Example {\n" + blocks.get(0) + "public static void main(String[] args) {\n" + lines + "}\n}\n");
        c.due("calls run", CALLS.size(), due.size());
        for (int i = 0; i < due.size() && i < ANSWERS.size(); i++) {
            c.due(CALLS.get(i) + " answered " + ANSWERS.get(i) + ", README.md says " + due.get(i), ANSWERS.get(i).equals(due.get(i)), true);
        }
    }

    private static List<String> javaBlocks(String readme) {
        List<String> blocks = new ArrayList<>();
        Matcher block = Pattern.compile("```java\n(.*?)```", Pattern.DOTALL).matcher(readme);
        while (block.find()) {
            blocks.add(block.group(1));
        }
        return blocks;
    }

    private static void run(String source) throws Exception {
        Path folder = Files.createTempDirectory("readme");
        Path file = folder.resolve("Example.java");
        Path made = folder.resolve("Example.class");
        try {
            Files.writeString(file, source);
            JavaCompiler compiler = ToolProvider.getSystemJavaCompiler();
            StringWriter said = new StringWriter();
            List<String> options = List.of("-d", folder.toString(), "-cp", System.getProperty("java.class.path"));
            boolean compiled = compiler.getTask(said, null, null, options, null,
                compiler.getStandardFileManager(null, null, null).getJavaFileObjects(file)).call();
            if (!compiled) {
                throw new IllegalStateException("README.md does not compile: " + said);
            }
            try (URLClassLoader loader = new URLClassLoader(new URL[] {folder.toUri().toURL()}, ReadmeTest.class.getClassLoader())) {
                loader.loadClass("Example").getMethod("main", String[].class).invoke(null, (Object) new String[0]);
            }
        } finally {
            Files.deleteIfExists(made);
            Files.deleteIfExists(file);
            Files.deleteIfExists(folder);
        }
    }

    private static void tableNamesAll(Check c, String readme) {
        for (Method m : GraveRequest.class.getDeclaredMethods()) {
            if (Modifier.isPublic(m.getModifiers())) {
                c.due("the table names " + m.getName(), Pattern.compile("(?m)^\\| [^|]*`" + m.getName() + "`[^|]*\\|").matcher(readme).find(), true);
            }
        }
    }
}
