import java.io.IOException;
import java.lang.reflect.Method;
import java.lang.reflect.Modifier;
import java.net.URL;
import java.net.URLClassLoader;
import java.nio.file.Files;
import java.nio.file.Path;
import java.util.concurrent.Callable;
import java.util.regex.Matcher;
import java.util.regex.Pattern;
import javax.tools.ToolProvider;

/** README.md is as good as its word: its code compiles, and each call that it shows answers as it says. */
public final class ReadmeTest {
    private static final String NAME = "ReadmeShown";
    private static final Pattern BLOCK = Pattern.compile("```java\\n(.*?)```", Pattern.DOTALL);
    private static final Pattern SHOWN = Pattern.compile("(\\w+\\.\\w+\\(.*\\));\\s+// (throws \\w+|true|false|-?\\d+): .+");

    /** What the compiled code of the page tells of each call. */
    public interface Page {
        void shown(String call, String due, Callable<Object> body) throws Exception;
    }

    public static void main(String[] args) throws Exception {
        String page = Files.readString(Path.of("README.md"));
        for (Method m : HalfOaths.class.getDeclaredMethods()) {
            if (Modifier.isPublic(m.getModifiers())) {
                Due.same("README.md shows " + m.getName(), Pattern.compile("[xy]\\." + m.getName() + "\\(").matcher(page).find(), true);
            }
        }
        run(program(page));
        Due.close("ReadmeTest");
    }

    /** One class: methods of the page as they stand, and the rest one behind another. */
    private static String program(String page) {
        StringBuilder methods = new StringBuilder();
        StringBuilder body = new StringBuilder();
        Matcher blocks = BLOCK.matcher(page);
        while (blocks.find()) {
            if (blocks.group(1).startsWith("static ")) {
                methods.append(blocks.group(1));
            } else {
                blocks.group(1).lines().forEach(line -> body.append(told(line)).append('\n'));
            }
        }
        return "public final class " + NAME + " {\n" + methods
            + "public static void run(ReadmeTest.Page page) throws Exception {\n" + body + "}\n}\n";
    }

    private static String told(String line) {
        Matcher shown = SHOWN.matcher(line);
        if (!shown.matches()) {
            boolean answers = line.matches("[xy]\\..*") && !line.equals("x.image();");
            Due.same("README.md's line without an answer: " + line, answers, false);
            return line;
        }
        String call = shown.group(1);
        return "page.shown(\"" + call.replace("\\", "\\\\").replace("\"", "\\\"") + "\", \"" + shown.group(2) + "\", () -> " + call + ");";
    }

    private static void run(String program) throws Exception {
        Path folder = Files.createTempDirectory("readme");
        Path file = folder.resolve(NAME + ".java");
        try {
            Files.writeString(file, program);
            int code = ToolProvider.getSystemJavaCompiler().run(null, null, null, "--release", "17",
                "-cp", System.getProperty("java.class.path"), "-d", folder.toString(), file.toString());
            Due.same("javac of README.md's code", code, 0);
            if (code == 0) {
                try (URLClassLoader loader = new URLClassLoader(new URL[] {folder.toUri().toURL()})) {
                    Page page = ReadmeTest::shown;
                    loader.loadClass(NAME).getMethod("run", Page.class).invoke(null, page);
                }
            }
        } finally {
            delete(folder);
        }
    }

    private static void shown(String call, String due, Callable<Object> body) throws Exception {
        String got;
        try {
            got = String.valueOf(body.call());
        } catch (RuntimeException e) {
            got = "throws " + e.getClass().getSimpleName();
        }
        Due.same("README.md's " + call, got, due);
    }

    private static void delete(Path folder) throws IOException {
        try (var files = Files.list(folder)) {
            for (Path file : files.toList()) {
                Files.delete(file);
            }
        }
        Files.delete(folder);
    }
}
