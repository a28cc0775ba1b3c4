import java.io.ByteArrayOutputStream;
import java.io.IOException;
import java.io.PrintStream;
import java.lang.reflect.Method;
import java.lang.reflect.Modifier;
import java.net.URL;
import java.net.URLClassLoader;
import java.nio.charset.StandardCharsets;
import java.nio.file.Files;
import java.nio.file.Path;
import java.util.regex.Matcher;
import java.util.regex.Pattern;
import javax.tools.ToolProvider;

/** README.md's program prints what stands below it, and the page names each call. Arguments: the page, a folder to compile into. */
public final class ReadmeTest extends Checks {
    public static void main(String[] args) throws IOException, ReflectiveOperationException {
        String page = Files.readString(Path.of(args[0]));
        Path folder = Files.createDirectories(Path.of(args[1]));
        due("what the program prints", printed(block(page, "java"), folder), block(page, "text"));
        for (Method method : TwoFaces.class.getDeclaredMethods()) {
            if (Modifier.isPublic(method.getModifiers())) {
                due("the page names " + method.getName(), page.contains("`" + method.getName() + "`"), true);
            }
        }
        due("the page tells NONE", page.contains("`TwoFaces.NONE`, -1: *there is none*"), true);
        due("the page tells -2", page.contains("- -2, of `rules()` alone"), true);
        tellAndExit();
    }

    private static String block(String page, String language) {
        Matcher m = Pattern.compile("(?s)```" + language + "\n(.*?)```").matcher(page);
        return m.find() ? m.group(1) : "";
    }

    private static String printed(String program, Path folder) throws IOException, ReflectiveOperationException {
        Path file = folder.resolve("Example.java");
        Files.writeString(file, program);
        int compiled = ToolProvider.getSystemJavaCompiler().run(null, null, null, "-d", folder.toString(), "-cp",
            System.getProperty("java.class.path"), file.toString());
        if (compiled != 0) {
            return "it does not compile\n";
        }
        PrintStream before = System.out;
        ByteArrayOutputStream said = new ByteArrayOutputStream();
        try (URLClassLoader loader = new URLClassLoader(new URL[] {folder.toUri().toURL()}, ReadmeTest.class.getClassLoader())) {
            System.setOut(new PrintStream(said, true, StandardCharsets.UTF_8));
            loader.loadClass("Example").getMethod("main", String[].class).invoke(null, (Object) new String[0]);
        } finally {
            System.setOut(before);
        }
        return said.toString(StandardCharsets.UTF_8).replace("\r\n", "\n");
    }
}
