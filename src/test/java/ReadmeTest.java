import java.lang.reflect.Method;
import java.lang.reflect.Modifier;
import java.net.URL;
import java.net.URLClassLoader;
import java.nio.file.Files;
import java.nio.file.Path;
import java.util.regex.Matcher;
import java.util.regex.Pattern;
import javax.tools.JavaCompiler;
import javax.tools.ToolProvider;

/** README.md's example answers what its comments say, and every call is told of. Run from the project's root. */
public final class ReadmeTest {
    /** A call, or a variable that a call gives its value, and the answer behind it. */
    private static final Pattern ANSWERED = Pattern.compile("(?m)^(int \\w+ = )?(x\\.\\w+\\(.*\\));\\s*// (-?\\d+)\\b.*$");
    private static final int LEAST = 30;

    public static void main(String[] args) throws Exception {
        String readme = Files.readString(Path.of("README.md"));
        Check.sentence("README.md", "The calls");
        for (Method m : LoopLoom.class.getDeclaredMethods()) {
            if (!Modifier.isPublic(m.getModifiers())) continue;
            Check.due(m.getName() + " is told of", readme.contains("`" + m.getName() + "`") ? 1 : 0, 1);
        }
        Check.sentence("README.md", "How to use it");
        play(example(readme));
        Check.end();
    }

    /** The example, with a look at each answer that a comment tells. */
    private static String example(String readme) {
        int from = readme.indexOf("```java\n") + "```java\n".length();
        String block = readme.substring(from, readme.indexOf("```", from));
        StringBuilder code = new StringBuilder();
        Matcher m = ANSWERED.matcher(block);
        int answers = 0;
        while (m.find()) {
            answers++;
            String value = m.group(1) == null ? "int got" + answers + " = (int) " : m.group(1);
            String name = value.split(" ")[1];
            m.appendReplacement(code, Matcher.quoteReplacement(value + m.group(2) + "; see.accept(\""
                + m.group(2) + "\", new long[] {" + name + ", " + m.group(3) + "});"));
        }
        m.appendTail(code);
        Check.due("answers in the example: " + answers + ", at least " + LEAST, answers >= LEAST ? 1 : 0, 1);
        return code.toString();
    }

    private static void play(String code) throws Exception {
        Path dir = Files.createTempDirectory("readme");
        Path source = dir.resolve("Example.java");
        Path made = dir.resolve("Example.class");
        Files.writeString(source, "public class Example implements java.util.function.Consumer<"
            + "java.util.function.BiConsumer<String, long[]>> {\n"
            + "public void accept(java.util.function.BiConsumer<String, long[]> see) {\n" + code + "}\n}\n");
        JavaCompiler compiler = ToolProvider.getSystemJavaCompiler();
        int failed = compiler.run(null, null, null, "-proc:none", "-cp", System.getProperty("java.class.path"),
            "-d", dir.toString(), source.toString());
        Check.due("the example compiles", failed, 0);
        if (failed == 0) {
            try (URLClassLoader loader = new URLClassLoader(new URL[] {dir.toUri().toURL()})) {
                run(loader.loadClass("Example").getDeclaredConstructor().newInstance());
            }
        }
        Files.deleteIfExists(made);
        Files.delete(source);
        Files.delete(dir);
    }

    @SuppressWarnings("unchecked")
    private static void run(Object example) {
        java.util.function.BiConsumer<String, long[]> see = (call, both) -> Check.due(call, both[0], both[1]);
        ((java.util.function.Consumer<java.util.function.BiConsumer<String, long[]>>) example).accept(see);
    }
}
