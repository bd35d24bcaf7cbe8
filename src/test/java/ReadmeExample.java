import java.lang.reflect.InvocationTargetException;
import java.lang.reflect.Method;
import java.lang.reflect.Modifier;
import java.net.URL;
import java.net.URLClassLoader;
import java.nio.file.Files;
import java.nio.file.Path;
import java.util.ArrayList;
import java.util.List;
import java.util.regex.Matcher;
import java.util.regex.Pattern;
import javax.tools.ToolProvider;

/** README's examples, compiled and run: each call with a number behind // must answer it. */
public final class ReadmeExample {
    private static final Pattern BLOCK = Pattern.compile("```java\n(.*?)```", Pattern.DOTALL);
    private static final Pattern ANSWERED = Pattern.compile("(x\\.\\w+\\(.*?\\));\\s*// (-?\\d+)\\b.*");
    /** Fewer answers than this, and the example is not what was meant to be tested. */
    private static final int FEWEST_ANSWERS = 10;

    private ReadmeExample() {
    }

    /** Called by the compiled example. */
    public static void due(String call, int got, int want) {
        Check.due(call, got, want);
    }

    public static void main(String[] args) throws Exception {
        String page = Files.readString(Path.of("README.md"));
        Check.due("README names each call of the face: unnamed", unnamed(page).size(), 0);
        List<String> methods = new ArrayList<>();
        List<String> statements = new ArrayList<>();
        Matcher block = BLOCK.matcher(page);
        while (block.find()) {
            (block.group(1).startsWith("static") ? methods : statements).add(block.group(1));
        }
        int answers = 0;
        StringBuilder main = new StringBuilder();
        for (String line : String.join("", statements).split("\n")) {
            Matcher answered = ANSWERED.matcher(line);
            if (answered.matches()) {
                answers++;
                main.append("ReadmeExample.due(\"").append(answered.group(1)).append("\", ").append(answered.group(1))
                        .append(", ").append(answered.group(2)).append(");\n");
            } else {
                main.append(line).append('\n');
            }
        }
        Check.due("README has examples enough", answers < FEWEST_ANSWERS ? 0 : 1, 1);
        run("public class Example {\n" + String.join("", methods) + "public static void example() {\n" + main + "}\n}\n");
        Check.finish("README");
    }

    private static List<String> unnamed(String page) {
        List<String> names = new ArrayList<>();
        for (Method method : DailyLie.class.getDeclaredMethods()) {
            boolean named = Pattern.compile("`" + method.getName() + "`").matcher(page).find();
            if (Modifier.isPublic(method.getModifiers()) && !named) {
                names.add(method.getName());
            }
        }
        names.forEach(name -> System.out.println("README does not name " + name));
        return names;
    }

    private static void run(String source) throws Exception {
        Path folder = Files.createTempDirectory("readme");
        Path file = Files.writeString(folder.resolve("Example.java"), source);
        int failed = ToolProvider.getSystemJavaCompiler().run(null, null, null, "-proc:none", "-cp",
                System.getProperty("java.class.path"), "-d", folder.toString(), file.toString());
        Check.due("README's example compiles", failed, 0);
        if (failed == 0) {
            try (URLClassLoader loader = new URLClassLoader(new URL[] {folder.toUri().toURL()})) {
                loader.loadClass("Example").getMethod("example").invoke(null);
            } catch (InvocationTargetException e) {
                Check.due("README's example throws " + e.getCause(), 0, 1);
            }
        }
        Files.deleteIfExists(folder.resolve("Example.class"));
        Files.delete(file);
        Files.delete(folder);
    }
}
