import java.io.IOException;
import java.lang.reflect.Method;
import java.lang.reflect.Modifier;
import java.net.URL;
import java.net.URLClassLoader;
import java.nio.file.Files;
import java.nio.file.Path;
import java.util.Arrays;
import java.util.List;
import java.util.regex.Matcher;
import java.util.regex.Pattern;
import javax.tools.ToolProvider;

/** README.md: its code is compiled and run as it stands, each answer is the one that it tells. Runs in the project's folder. */
public final class ReadmeTest {
    private static final Pattern BLOCK = Pattern.compile("(?s)```java\n(.*?)```");
    private static final Pattern ASKED = Pattern.compile("(.+);\\s+// (-?\\w+)(:.*)?");

    public static void main(String[] args) throws Exception {
        Check c = new Check();
        String readme = Files.readString(Path.of("README.md"));
        StringBuilder methods = new StringBuilder();
        StringBuilder calls = new StringBuilder();
        int asked = 0;
        Matcher matcher = BLOCK.matcher(readme);
        while (matcher.find()) {
            String block = matcher.group(1);
            if (block.startsWith("static ")) {
                methods.append(block);
                continue;
            }
            for (String line : block.split("\n")) {
                Matcher one = ASKED.matcher(line);
                boolean answered = one.matches();
                asked += answered ? 1 : 0;
                calls.append(answered ? "due(" + quoted(one.group(1)) + ", " + one.group(1) + ", " + one.group(2) + ");" : line);
                calls.append('\n');
            }
        }
        c.due("calls in README.md", asked > 80, true);
        c.due("wrong answers in README.md", run(methods.toString(), calls.toString()), 0);
        for (String name : publicNames()) {
            c.due("README.md uses " + name, readme.contains(name + "("), true);
        }
        tests(c, readme);
        c.close();
    }

    private static String quoted(String code) {
        return '"' + code.replace("\\", "\\\\").replace("\"", "\\\"") + '"';
    }

    private static List<String> publicNames() {
        return Arrays.stream(CityChords.class.getDeclaredMethods()).filter(method -> Modifier.isPublic(method.getModifiers()))
            .map(Method::getName).toList();
    }

    private static int run(String methods, String calls) throws Exception {
        Path folder = Files.createTempDirectory("readme");
        Path file = folder.resolve("ReadmeCode.java");
        Files.writeString(file, "public final class ReadmeCode {\n"
            + "static final int NONE = CityChords.NONE;\nstatic int wrong = 0;\n"
            + "static void due(String call, Object got, Object want) {\n"
            + "if (!got.equals(want)) { wrong++; System.out.println(call + \" answered \" + got + \", README.md says \" + want); }\n}\n"
            + methods + "public static int run() {\n" + calls + "return wrong;\n}\n}\n");
        int failed = ToolProvider.getSystemJavaCompiler().run(null, null, null, "-cp", System.getProperty("java.class.path"),
            "-d", folder.toString(), file.toString());
        if (failed != 0) {
            return -1;
        }
        try (URLClassLoader loader = new URLClassLoader(new URL[] {folder.toUri().toURL()})) {
            return (Integer) loader.loadClass("ReadmeCode").getMethod("run").invoke(null);
        } finally {
            clear(folder);
        }
    }

    private static void clear(Path folder) throws IOException {
        for (String name : new String[] {"ReadmeCode.java", "ReadmeCode.class"}) {
            Files.deleteIfExists(folder.resolve(name));
        }
        Files.deleteIfExists(folder);
    }

    /** Each test of the project stands in README.md's table. */
    private static void tests(Check c, String readme) throws IOException {
        try (var all = Files.list(Path.of("src/test/java"))) {
            for (Path file : all.toList()) {
                String name = file.getFileName().toString().replace(".java", "");
                boolean named = !name.endsWith("Test") || readme.contains("| " + name + " |");
                c.due("README.md names " + name, named, true);
            }
        }
    }
}
