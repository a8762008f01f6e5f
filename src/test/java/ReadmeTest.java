import java.io.File;
import java.lang.reflect.Field;
import java.lang.reflect.Method;
import java.lang.reflect.Modifier;
import java.net.URL;
import java.net.URLClassLoader;
import java.nio.file.Files;
import java.nio.file.Path;
import java.util.regex.Matcher;
import java.util.regex.Pattern;
import javax.tools.ToolProvider;

/** README.md: its lines of Java answer what is written behind them, and it names each call and each test. */
public final class ReadmeTest {
    private static final Pattern ANSWER = Pattern.compile("// (\\w+) is (-?\\d+)$");
    private static int wrong = 0;

    private static void right(boolean is, String what) {
        if (!is) {
            wrong++;
            System.out.println("ReadmeTest: " + what);
        }
    }

    /** The example's lines as a class, which answers what was wrong, one line each. */
    private static String asClass(String example) {
        StringBuilder text = new StringBuilder("public final class Example {\n  public static String wrong() {\n");
        text.append("    StringBuilder wrong = new StringBuilder();\n");
        int answers = 0;
        for (String line : example.split("\n")) {
            text.append(line).append('\n');
            Matcher answer = ANSWER.matcher(line);
            if (answer.find()) {
                String name = answer.group(1);
                String due = answer.group(2);
                text.append("    if (").append(name).append(" != ").append(due).append(") { wrong.append(\"").append(name);
                text.append(" is \").append(").append(name).append(").append(\", due is ").append(due).append("; \"); }\n");
                answers++;
            }
        }
        right(answers >= 10, "the example tells just " + answers + " answers");
        return text.append("    return wrong.toString();\n  }\n}\n").toString();
    }

    private static void example(String readme) throws Exception {
        Matcher block = Pattern.compile("(?s)```java\n(.*?)```").matcher(readme);
        right(block.find(), "there is no example");
        Path folder = Files.createTempDirectory("readme");
        Path source = folder.resolve("Example.java");
        Files.writeString(source, asClass(block.group(1)));
        int rc = ToolProvider.getSystemJavaCompiler().run(null, null, null, "-proc:none", "-cp",
            System.getProperty("java.class.path"), "-d", folder.toString(), source.toString());
        right(rc == 0, "the example does not compile");
        if (rc == 0) {
            try (URLClassLoader loader = new URLClassLoader(new URL[] {folder.toUri().toURL()})) {
                Object got = loader.loadClass("Example").getMethod("wrong").invoke(null);
                right(got.equals(""), "the example: " + got);
            }
        }
        for (File file : folder.toFile().listFiles()) {
            file.delete();
        }
        folder.toFile().delete();
    }

    private static void names(String readme) {
        for (Method m : Patiencery.class.getDeclaredMethods()) {
            if (Modifier.isPublic(m.getModifiers())) {
                right(readme.contains("| `" + m.getName() + "(") || readme.contains(", `" + m.getName() + "("), m.getName() + " is not told of");
            }
        }
        for (Field f : Patiencery.class.getFields()) {
            right(readme.contains("`" + f.getName() + "`"), f.getName() + " is not told of");
        }
        for (String file : new File("src/test/java").list()) {
            String name = file.replace(".java", "");
            right(!name.endsWith("Test") || readme.contains("`" + name + "`"), name + " is not told of");
        }
        right(readme.contains(".ci/run"), "how to run the tests is not told");
    }

    public static void main(String[] args) throws Exception {
        String readme = Files.readString(Path.of("README.md"));
        example(readme);
        names(readme);
        System.out.println("ReadmeTest: " + (wrong == 0 ? "README.md is right" : wrong + " wrong"));
        if (wrong != 0) {
            System.exit(1);
        }
    }
}
