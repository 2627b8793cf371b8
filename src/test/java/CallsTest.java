import java.io.IOException;
import java.io.OutputStream;
import java.io.PrintStream;
import java.lang.reflect.InvocationTargetException;
import java.net.URL;
import java.net.URLClassLoader;
import java.nio.file.Files;
import java.nio.file.Path;
import java.util.List;
import java.util.regex.Pattern;
import java.util.stream.Stream;
import javax.tools.ToolProvider;

/**
 * What stands before "Terms": no other test may look at what the document leaves free. Each one is run once more with a copy of the
 * class that counts its calls.
 */
public final class CallsTest {
    private static final Pattern METHOD = Pattern.compile("\n    public (?:int|boolean|void) \\w+\\([^)]*\\)[^;{]*\\{");
    private static final int METHODS = 48;
    private static final String COUNTER = "\n    private int called = 0;\n\n    private void called() {\n        called++;\n"
            + "        if (called > 512) {\n            throw new AssertionError(\"an object is called more than 512 times\");\n        }\n    }\n";

    /** They look at the class itself, which the copy is not. */
    private static final List<String> OF_THE_CLASS = List.of("CallsTest", "FaceTest", "LanguageTest", "ReadmeTest");

    public static void main(String[] args) throws Exception {
        Kit.sentence("An object is used for at most 512 calls after it has been made; what later calls answer is free.");
        Path copy = Files.createTempDirectory("calls");
        try {
            compileCounting(copy);
            Kit.is("the copy counts to 512", end("CallsTest$Counts", copy), "ends");
            for (String name : tests()) {
                Kit.is(name, end(name, copy), "ends");
            }
        } finally {
            Kit.delete(copy);
        }
        Kit.close("CallsTest");
    }

    /** Whether the copy counts at all: the 513th call, and none ahead of it, ends the run. */
    public static final class Counts {
        public static void main(String[] args) {
            LaceBonds x = new LaceBonds();
            for (int n = 1; n <= 512; n++) {
                x.count(0);
            }
            try {
                x.count(0);
            } catch (AssertionError e) {
                return;
            }
            throw new IllegalStateException("the 513th call is not counted");
        }
    }

    private static void compileCounting(Path copy) throws IOException {
        String source = Files.readString(Path.of("src/main/java/LaceBonds.java"));
        Kit.is("methods that are counted", (int) METHOD.matcher(source).results().count(), METHODS);
        String counting = METHOD.matcher(source).replaceAll("$0\n        called();");
        int end = counting.indexOf("\n    public LaceBonds()");
        Path file = Files.writeString(copy.resolve("LaceBonds.java"), counting.substring(0, end) + COUNTER + counting.substring(end));
        int code = ToolProvider.getSystemJavaCompiler().run(null, null, null, "-d", copy.toString(), file.toString());
        Kit.is("the copy compiles", code, 0);
    }

    private static List<String> tests() throws IOException {
        try (Stream<Path> files = Files.list(Path.of("src/test/java"))) {
            return files.map(f -> f.getFileName().toString()).filter(n -> n.endsWith("Test.java")).map(n -> n.substring(0, n.length() - 5))
                    .filter(n -> !OF_THE_CLASS.contains(n)).sorted().toList();
        }
    }

    /** How the test ends with the copy; what it prints is printed where it runs with the class. */
    private static String end(String name, Path copy) throws Exception {
        URL own = CallsTest.class.getProtectionDomain().getCodeSource().getLocation();
        PrintStream out = System.out;
        System.setOut(new PrintStream(OutputStream.nullOutputStream()));
        try (URLClassLoader loader = new URLClassLoader(new URL[] {copy.toUri().toURL(), own}, ClassLoader.getPlatformClassLoader())) {
            loader.loadClass(name).getMethod("main", String[].class).invoke(null, (Object) new String[0]);
            return "ends";
        } catch (InvocationTargetException e) {
            return e.getCause() + " " + List.of(e.getCause().getStackTrace());
        } finally {
            System.setOut(out);
        }
    }
}
