import java.io.IOException;
import java.lang.reflect.Method;
import java.net.URL;
import java.net.URLClassLoader;
import java.nio.file.Files;
import java.nio.file.Path;
import java.util.regex.Matcher;
import java.util.regex.Pattern;
import javax.tools.ToolProvider;

/** The example in README.md compiles and answers what it says. Takes the path of the class's source. */
public final class ReadmeTest {
    private static final Pattern ANSWER = Pattern.compile("int (\\w+) = desk\\.(\\w+)\\(.*\\); *// answers (-?\\d+).*");

    private static int wrong;
    private static int said;

    private ReadmeTest() { }

    /** Called by the example. */
    public static void due(String line, int got, int want) {
        said++;
        if (got != want) {
            wrong++;
            System.out.println(line + "\n  answered " + got);
        }
    }

    private static String example(String readme) {
        int begin = readme.indexOf("```java\n") + 8;
        StringBuilder code = new StringBuilder("public final class Example {\n    public static void run() {\n");
        for (String line : readme.substring(begin, readme.indexOf("```", begin)).split("\n")) {
            code.append(line).append('\n');
            Matcher answer = ANSWER.matcher(line);
            if (answer.matches()) {
                code.append("ReadmeTest.due(\"").append(line).append("\", ").append(answer.group(1)).append(", ")
                        .append(answer.group(3)).append(");\n");
            }
        }
        return code.append("    }\n}\n").toString();
    }

    private static void run(String code) throws IOException, ReflectiveOperationException {
        Path out = Files.createTempDirectory("readme");
        Path source = out.resolve("Example.java");
        Files.writeString(source, code);
        int failed = ToolProvider.getSystemJavaCompiler().run(null, null, null, "-proc:none", "-cp",
                System.getProperty("java.class.path"), "-d", out.toString(), source.toString());
        due("the example compiles", failed, 0);
        if (failed == 0) {
            try (URLClassLoader loader = new URLClassLoader(new URL[] {out.toUri().toURL()})) {
                Method example = loader.loadClass("Example").getMethod("run");
                example.invoke(null);
            }
        }
        Files.deleteIfExists(out.resolve("Example.class"));
        Files.delete(source);
        Files.delete(out);
    }

    public static void main(String[] args) throws IOException, ReflectiveOperationException {
        Path root = Path.of(args[0]).toAbsolutePath().getParent().getParent().getParent().getParent();
        String readme = Files.readString(root.resolve("README.md"));
        run(example(readme));
        for (Method method : ConnectionDesk.class.getDeclaredMethods()) {
            boolean isOpen = java.lang.reflect.Modifier.isPublic(method.getModifiers());
            due("README.md names " + method.getName(), !isOpen || readme.contains("`" + method.getName() + "`") ? 0 : 1, 0);
        }
        System.out.println(wrong + " of " + said + " answers are not as due");
        if (wrong != 0 || said < 40) {
            System.exit(1);
        }
    }
}
