import java.net.URL;
import java.net.URLClassLoader;
import java.nio.file.Files;
import java.nio.file.Path;
import java.util.ArrayList;
import java.util.List;
import java.util.regex.Matcher;
import java.util.regex.Pattern;
import java.util.stream.Stream;
import javax.tools.ToolProvider;

/** README.md: its code compiles, each call in it answers the number behind it, and it leaves out no call and no test. */
public final class ReadmeTest {
    private static final Path README = Path.of("README.md");
    private static final Path TESTS = Path.of("src/test/java");
    private static final Pattern BLOCK = Pattern.compile("(?s)```java\n(.*?)```");
    private static final Pattern CALL = Pattern.compile("(?m)^(press\\.(\\w+)\\(.*\\)); +// (-?\\d+): .*$");

    public static void main(String[] args) throws Exception {
        String text = Files.readString(README);
        Matcher block = BLOCK.matcher(text);
        Checks.due("the block that puts a text on the tape", block.find() ? 1 : 0, 1);
        String method = block.group(1);
        Checks.due("the block of calls", block.find() ? 1 : 0, 1);
        String calls = block.group(1);
        Checks.due("no other block", block.find() ? 1 : 0, 0);
        answers(method, calls);
        everyCall(calls + method);
        everyTest(text);
        Checks.finish();
    }

    private static void answers(String method, String calls) throws Exception {
        List<String> told = new ArrayList<>();
        List<Long> due = new ArrayList<>();
        Matcher call = CALL.matcher(calls);
        while (call.find()) {
            told.add(call.group(1));
            due.add(Long.valueOf(call.group(3)));
        }
        Checks.due("lines with a call and its answer", told.size(), Pattern.compile("(?m)^press\\.").matcher(calls).results().count());
        long[] got = run(method, CALL.matcher(calls).replaceAll("got[at++] = $1;"), told.size());
        for (int i = 0; i < got.length; i++) {
            Checks.due(told.get(i), got[i], due.get(i));
        }
    }

    /** Compiles the page's code to a class of its own and runs it. */
    private static long[] run(String method, String calls, int size) throws Exception {
        Path folder = Files.createTempDirectory("readme");
        Path source = folder.resolve("Readme.java");
        try {
            Files.writeString(source, "public final class Readme {\n" + method + "public static long[] answers() {\n"
                + "long[] got = new long[" + size + "];\nint at = 0;\n" + calls + "return got;\n}\n}\n");
            int result = ToolProvider.getSystemJavaCompiler().run(null, null, null, "-d", folder.toString(),
                "-cp", System.getProperty("java.class.path"), source.toString());
            Checks.due("the page's code compiles", result, 0);
            if (result != 0) {
                return new long[0];
            }
            try (URLClassLoader loader = new URLClassLoader(new URL[] {folder.toUri().toURL()})) {
                return (long[]) loader.loadClass("Readme").getMethod("answers").invoke(null);
            }
        } finally {
            Files.deleteIfExists(folder.resolve("Readme.class"));
            Files.deleteIfExists(source);
            Files.deleteIfExists(folder);
        }
    }

    private static void everyCall(String code) {
        for (var method : FourInks.class.getDeclaredMethods()) {
            if (java.lang.reflect.Modifier.isPublic(method.getModifiers())) {
                Checks.due("the page shows " + method.getName(), code.contains("press." + method.getName() + "(") ? 1 : 0, 1);
            }
        }
    }

    private static void everyTest(String text) throws Exception {
        try (Stream<Path> files = Files.list(TESTS)) {
            for (Path file : files.toList()) {
                String name = file.getFileName().toString().replace(".java", "");
                Checks.due("the page names " + name, text.contains("`" + name + "`") ? 1 : 0, 1);
            }
        }
    }
}
