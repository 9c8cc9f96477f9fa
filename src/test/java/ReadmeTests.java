import java.io.IOException;
import java.lang.reflect.Method;
import java.lang.reflect.Modifier;
import java.net.URL;
import java.net.URLClassLoader;
import java.nio.file.Files;
import java.nio.file.Path;
import java.util.List;
import java.util.regex.Matcher;
import java.util.regex.Pattern;
import javax.tools.JavaCompiler;
import javax.tools.ToolProvider;

/** README.md: its examples compile and answer what they tell, it names each call and each test that there is. */
public final class ReadmeTests {
    private static final Pattern CALL = Pattern.compile("(int \\w+ = )?(f\\.\\w+\\(.*\\));\\s*// (-?\\d+)(: .*)?");
    private static final String NEW = "FaultFinder f = new FaultFinder();";

    private static int checked = 0;
    private static int wrong = 0;

    public static void main(String[] args) throws Exception {
        List<String> readme = Files.readAllLines(Path.of("README.md"));
        runExamples(exampleClass(readme));
        hold(checked > 0, "there is an example");
        namesCalls(readme);
        namesTests(readme);
        System.out.println(checked + " answers checked, " + wrong + " wrong");
        if (wrong != 0) {
            System.exit(1);
        }
    }

    private static void hold(boolean holds, String what) {
        if (!holds) {
            wrong++;
            System.out.println("not so: " + what);
        }
    }

    /** The examples call this, compiled, with what they tell behind the call. */
    public static int due(String call, long answered, long told) {
        checked++;
        hold(answered == told, call + " answers " + answered + ", README.md tells " + told);
        return (int) answered;
    }

    private static String exampleClass(List<String> readme) {
        StringBuilder text = new StringBuilder("public class ReadmeExamples { public static void run() {\n");
        boolean inside = false;
        for (String line : readme) {
            if (line.equals("```java")) {
                inside = true;
                text.append("{\n");
            } else if (inside && line.equals("```")) {
                inside = false;
                text.append("}\n");
            } else if (inside) {
                text.append(statement(line)).append('\n');
            }
        }
        return text.append("}}\n").toString();
    }

    private static String statement(String line) {
        Matcher call = CALL.matcher(line);
        if (!call.matches()) {
            hold(line.equals(NEW), "this line tells its answer: " + line);
            return line;
        }
        String declared = call.group(1) == null ? "" : call.group(1);
        return declared + "ReadmeTests.due(\"" + call.group(2) + "\", " + call.group(2) + ", " + call.group(3) + "L);";
    }

    private static void runExamples(String text) throws Exception {
        JavaCompiler compiler = ToolProvider.getSystemJavaCompiler();
        if (compiler == null) {
            hold(false, "there is a compiler");
            return;
        }
        Path dir = Files.createTempDirectory("readme");
        Path source = dir.resolve("ReadmeExamples.java");
        Path compiled = dir.resolve("ReadmeExamples.class");
        try {
            Files.writeString(source, text);
            String path = System.getProperty("java.class.path");
            int failed = compiler.run(null, null, null, "-cp", path, "-d", dir.toString(), source.toString());
            hold(failed == 0, "the examples compile");
            if (failed == 0) {
                try (URLClassLoader loader = new URLClassLoader(new URL[] {dir.toUri().toURL()})) {
                    loader.loadClass("ReadmeExamples").getMethod("run").invoke(null);
                }
            }
        } finally {
            Files.deleteIfExists(compiled);
            Files.deleteIfExists(source);
            Files.deleteIfExists(dir);
        }
    }

    private static void namesCalls(List<String> readme) {
        for (Method method : FaultFinder.class.getDeclaredMethods()) {
            if (Modifier.isPublic(method.getModifiers())) {
                String name = "`" + method.getName() + "`";
                boolean named = readme.stream().anyMatch(line -> line.startsWith("| ") && line.contains(name));
                hold(named, "README.md has " + name + " in its table");
            }
        }
    }

    private static void namesTests(List<String> readme) throws IOException {
        try (var files = Files.list(Path.of("src/test/java"))) {
            for (Path file : (Iterable<Path>) files::iterator) {
                String name = file.getFileName().toString().replace(".java", "");
                hold(readme.stream().anyMatch(line -> line.startsWith("- `" + name + "`:")), "README.md tells of " + name);
            }
        }
    }
}
