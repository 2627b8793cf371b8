import java.io.ByteArrayOutputStream;
import java.io.PrintStream;
import java.net.URL;
import java.net.URLClassLoader;
import java.nio.file.Files;
import java.nio.file.Path;
import java.util.List;
import javax.tools.ToolProvider;

/** The program in README.md: it compiles with the class, and prints what README.md says. */
public final class ReadmeTest {
    public static void main(String[] args) throws Exception {
        String readme = Files.readString(Path.of("README.md"));
        Path dir = Files.createTempDirectory("readme");
        try {
            Path program = Files.writeString(dir.resolve("Walk.java"), block(readme, "java"));
            int code = ToolProvider.getSystemJavaCompiler().run(null, null, null, "-d", dir.toString(), "src/main/java/LaceBonds.java", program.toString());
            Kit.is("the program compiles", code, 0);
            Kit.is("what it prints", printed(dir), block(readme, "text").lines().toList());
        } finally {
            Kit.delete(dir);
        }
        Kit.close("ReadmeTest");
    }

    private static String block(String readme, String kind) {
        int begin = readme.indexOf("```" + kind + "\n") + kind.length() + 4;
        return readme.substring(begin, readme.indexOf("```", begin));
    }

    private static List<String> printed(Path dir) throws Exception {
        PrintStream out = System.out;
        ByteArrayOutputStream printed = new ByteArrayOutputStream();
        System.setOut(new PrintStream(printed));
        try (URLClassLoader loader = new URLClassLoader(new URL[] {dir.toUri().toURL()}, ClassLoader.getPlatformClassLoader())) {
            loader.loadClass("Walk").getMethod("main", String[].class).invoke(null, (Object) new String[0]);
        } finally {
            System.out.flush();
            System.setOut(out);
        }
        return printed.toString().lines().toList();
    }
}
