import java.lang.reflect.Field;
import java.lang.reflect.Modifier;
import java.nio.file.Files;
import java.nio.file.Path;
import java.util.List;
import java.util.regex.Matcher;
import java.util.regex.Pattern;

/** What of LANGUAGE.md can be seen in the source's own lines. */
public final class LanguageTest {
    public static void main(String[] args) throws Exception {
        String source = Files.readString(Path.of("src/main/java/LaceBonds.java"));
        String code = source.replaceAll("(?s)/\\*.*?\\*/", "").replaceAll("//[^\n]*", "");
        String bare = code.replaceAll("\"[^\"\n]*\"", "\"\"");
        Kit.is("signs are 1 to 127", source.chars().allMatch(c -> c > 0 && c < 128), true);
        Kit.is("no package line", bare.contains("package "), false);
        absent(bare, List.of("\\btry\\b", "\\bcatch\\b", "\\bfinally\\b", "\\bsynchronized\\b", "\\bassert\\b", "->", "::", "@", "\\bstatic \\{",
                "\\bdouble\\b", "\\bfloat\\b", "\\bLambda\\b", "Exact\\(", "\\bThread\\b", "\\bRandom\\b", "\\bObject\\b", "\\bHashMap\\b",
                "\\bhashCode\\b", "\\bSystem\\.(?!arraycopy)", "\\bvar\\b", "\\binstanceof\\b", "\\bgoto\\b"));
        imports(bare);
        exceptions(bare);
        methods(code);
        Kit.is("twelve classes at most", count(bare, "\\b(class|interface|enum|record) \\w+") <= 12, true);
        fields(LaceBonds.class);
        for (Class<?> inner : LaceBonds.class.getDeclaredClasses()) {
            fields(inner);
        }
        Kit.close("LanguageTest");
    }

    /** Some twenty fields beside the constants at most, and static ones are constants. */
    private static void fields(Class<?> c) {
        int many = 0;
        for (Field f : c.getDeclaredFields()) {
            boolean constant = Modifier.isStatic(f.getModifiers());
            many += constant ? 0 : 1;
            Kit.is(c.getName() + "." + f.getName() + " is a constant", !constant || Modifier.isFinal(f.getModifiers())
                    && List.of("int", "long", "boolean", "char", "String").contains(f.getType().getSimpleName()), true);
        }
        Kit.is(c.getName() + " has few fields", many <= 20, true);
    }

    private static void absent(String code, List<String> all) {
        for (String pattern : all) {
            Kit.is("none of " + pattern, count(code, pattern), 0);
        }
    }

    private static void imports(String code) {
        Matcher m = Pattern.compile("import ([\\w.]+);").matcher(code);
        while (m.find()) {
            Kit.is("import " + m.group(1), m.group(1), "java.util.NoSuchElementException");
        }
        m = Pattern.compile("\\b(Math|Integer|Long|Arrays)\\.(\\w+)").matcher(code);
        while (m.find()) {
            Kit.is("library " + m.group(), List.of("Math.min", "Math.max", "Math.floorMod", "Integer.bitCount", "Integer.numberOfTrailingZeros")
                    .contains(m.group()), true);
        }
    }

    private static void exceptions(String code) {
        Matcher m = Pattern.compile("throw ([^;]*);").matcher(code);
        int many = 0;
        while (m.find()) {
            many++;
            Kit.is(m.group(), m.group(1).matches("new (IllegalStateException|IllegalArgumentException|IndexOutOfBoundsException|"
                    + "UnsupportedOperationException|NoSuchElementException)\\(\"\"\\)"), true);
        }
        Kit.is("some are thrown", many > 0, true);
    }

    /** Methods have at most 60 lines and seven parameters. */
    private static void methods(String code) {
        Matcher m = Pattern.compile("\n( {4}| {8})(?:(?:public|private|static|abstract|final) )*(?:\\w+(?:\\[\\])? )?(\\w+)\\(([^)]*)\\)[^;{=]*\\{").matcher(code);
        int many = 0;
        while (m.find()) {
            many++;
            int end = code.indexOf("\n" + m.group(1) + "}", m.end());
            int lines = count(code.substring(m.start(), Math.max(m.start(), end)), "\n") + 1;
            Kit.is(m.group(2) + " is short", lines <= 60, true);
            Kit.is(m.group(2) + " takes seven at most", m.group(3).split(",").length <= 7, true);
        }
        Kit.is("methods are seen", many > 100, true);
    }

    private static int count(String code, String pattern) {
        int many = 0;
        Matcher m = Pattern.compile(pattern).matcher(code);
        while (m.find()) {
            many++;
        }
        return many;
    }
}
