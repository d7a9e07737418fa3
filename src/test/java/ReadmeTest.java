import java.io.IOException;
import java.lang.reflect.Method;
import java.lang.reflect.Modifier;
import java.net.URL;
import java.net.URLClassLoader;
import java.nio.file.Files;
import java.nio.file.Path;
import java.util.ArrayList;
import java.util.List;
import java.util.regex.Matcher;
import java.util.regex.Pattern;
import java.util.stream.Stream;
import javax.tools.JavaCompiler;
import javax.tools.ToolProvider;

/** What README.md says of the class's use: its blocks are compiled as they stand, its answers compared. */
public final class ReadmeTest {
    private static final Pattern BLOCK = Pattern.compile("```java\n(.*?)```", Pattern.DOTALL);
    private static final Pattern ANSWERED = Pattern.compile("(\\S.*\\));\\s+// (-?\\d+|true|false|\\w+Exception)(:.*)?");

    public static void main(String[] args) throws Exception {
        String readme = Files.readString(Path.of("README.md"));
        everyCallIsTold(readme);
        List<String> blocks = blocks(readme);
        Check.due("blocks", blocks.size(), 2);
        if (blocks.size() == 2) {
            runExample(exampleOf(blocks.get(0), blocks.get(1)));
        }
        Check.end();
    }

    private static void everyCallIsTold(String readme) {
        for (Method m : HalfShop.class.getDeclaredMethods()) {
            if (Modifier.isPublic(m.getModifiers())) {
                boolean told = Pattern.compile("`" + m.getName() + "\\(([a-z]+(, )?)*\\)`").matcher(readme).find();
                Check.due("README.md tells " + m.getName(), told, true);
            }
        }
    }

    private static List<String> blocks(String readme) {
        List<String> found = new ArrayList<>();
        Matcher m = BLOCK.matcher(readme);
        while (m.find()) {
            found.add(m.group(1));
        }
        return found;
    }

    private static String exampleOf(String helper, String calls) {
        StringBuilder s = new StringBuilder("public final class ReadmeExample {\n").append(helper);
        s.append("public static int run(java.util.function.BiConsumer<String, String[]> due) {\nint many = 0;\n");
        for (String line : calls.split("\n")) {
            s.append(statementOf(line)).append('\n');
        }
        return s.append("return many;\n}\n}\n").toString();
    }

    /** A line with an answer becomes a comparison; any other one stays as it is. */
    private static String statementOf(String line) {
        Matcher m = ANSWERED.matcher(line);
        if (!m.matches()) {
            Check.due("a call without its answer: " + line, line.contains("shop.") || line.contains("tell("), false);
            return line;
        }
        String call = m.group(1);
        String text = "\"" + call.replace("\"", "\\\"") + "\"";
        String compare = "many++; due.accept(" + text + ", new String[] {\"\" + got, \"" + m.group(2) + "\"});";
        return "{ Object got; try { got = " + call + "; } catch (java.util.NoSuchElementException e) {"
            + " got = e.getClass().getSimpleName(); } " + compare + " }";
    }

    private static void runExample(String source) throws Exception {
        Path dir = Files.createTempDirectory("readme");
        try {
            Path file = dir.resolve("ReadmeExample.java");
            Files.writeString(file, source);
            JavaCompiler compiler = ToolProvider.getSystemJavaCompiler();
            String path = System.getProperty("java.class.path");
            int failed = compiler.run(null, null, null, "-cp", path, "-d", dir.toString(), file.toString());
            Check.due("README.md's example compiles", failed, 0);
            if (failed == 0) {
                callExample(dir);
            }
        } finally {
            remove(dir);
        }
    }

    private static void callExample(Path dir) throws Exception {
        try (URLClassLoader loader = new URLClassLoader(new URL[] {dir.toUri().toURL()})) {
            Method run = loader.loadClass("ReadmeExample").getMethod("run", java.util.function.BiConsumer.class);
            java.util.function.BiConsumer<String, String[]> due = ReadmeTest::compare;
            int many = (Integer) run.invoke(null, due);
            Check.due("calls with an answer", many >= 40, true);
        }
    }

    private static void compare(String call, String[] gotAndTold) {
        String told = gotAndTold[1];
        Check.due("README.md: " + call + " answered " + gotAndTold[0] + ", told is " + told, gotAndTold[0].equals(told), true);
    }

    private static void remove(Path dir) throws IOException {
        try (Stream<Path> files = Files.list(dir)) {
            for (Path file : (Iterable<Path>) files::iterator) {
                Files.delete(file);
            }
        }
        Files.delete(dir);
    }
}
