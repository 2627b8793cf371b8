import java.lang.reflect.Constructor;
import java.lang.reflect.Field;
import java.lang.reflect.Method;
import java.lang.reflect.Modifier;
import java.util.ArrayList;
import java.util.Arrays;
import java.util.List;
import java.util.stream.Collectors;

/** The public face of the document, and rule 1 of LANGUAGE.md: nothing more is seen from outside. */
public final class FaceTest {
    private static final String IOOBE = "IndexOutOfBoundsException";
    private static final String IAE = "IllegalArgumentException";
    private static final String ISE = "IllegalStateException";
    private static final String NSEE = "NoSuchElementException";

    private static final String[] FACE = {
        "int feed(int,int,int,int,int)", "boolean end(int)", "int land() " + IAE + " UnsupportedOperationException", "int law() " + IAE, "int fault()",
        "int person(int,int) " + IOOBE + " " + NSEE, "int lace(int,int) " + IOOBE + " " + NSEE, "int mud(int) " + IOOBE,
        "int walks(int,int) " + IOOBE + " " + NSEE, "int grows(int) " + IOOBE,
        "int lend(int,int,int,int,int) " + IOOBE + " " + IAE + " " + ISE, "int pay(int) " + IOOBE + " " + ISE,
        "int surety(int,int) " + IOOBE + " " + IAE + " " + ISE, "int give(int,int) " + IOOBE + " " + IAE + " " + ISE,
        "int goal(int,int) " + IOOBE, "int rest(int) " + IOOBE, "int days(int) " + IAE, "int solvent()", "int comes(int,int) " + IOOBE,
        "int soonest(int) " + IOOBE, "int carry(int) " + IOOBE + " " + IAE, "int ahead(int,int,boolean) " + IOOBE + " " + IAE,
        "int rings()", "int untie(boolean)", "boolean owes(int,int) " + IOOBE + " " + IAE, "int leads(int) " + IOOBE,
        "int call(int,boolean) " + IOOBE, "int breaks(int) " + IAE, "int mercy(int) " + IOOBE, "int hangs(int) " + IOOBE,
        "int trust()", "int needed()", "int wear(boolean) " + IAE, "int look() " + IAE, "int race(int) " + IOOBE, "int pairs()",
        "int lends(int) " + IAE, "int loose(int) " + IOOBE, "int rail()", "int trial(int,boolean) " + IAE, "int span(int,boolean) " + IAE,
        "int led(int,boolean) " + IOOBE, "int log(int,int) " + NSEE, "int seed(int)", "boolean undo()", "void image()", "boolean back()", "int count(int)",
    };

    public static void main(String[] args) throws Exception {
        Class<?> c = LaceBonds.class;
        Kit.is("public and final", Modifier.toString(c.getModifiers()), "public final");
        Kit.is("48 methods", FACE.length, 48);
        List<String> seen = new ArrayList<>();
        List<String> names = new ArrayList<>();
        for (Method m : c.getDeclaredMethods()) {
            if (!Modifier.isPrivate(m.getModifiers())) {
                Kit.is(m.getName(), Modifier.toString(m.getModifiers()), "public");
                seen.add(signature(m));
                names.add(m.getName());
            }
        }
        Kit.is("the face", sorted(seen), sorted(Arrays.asList(FACE)));
        for (Field f : c.getDeclaredFields()) {
            boolean told = f.getName().equals("NONE");
            Kit.is("field " + f.getName(), Modifier.isPrivate(f.getModifiers()), !told);
            Kit.is("static is final", !Modifier.isStatic(f.getModifiers()) || Modifier.isFinal(f.getModifiers()), true);
        }
        Kit.is("NONE", Modifier.toString(c.getDeclaredField("NONE").getModifiers()), "public static final");
        Constructor<?>[] made = c.getDeclaredConstructors();
        Kit.is("one constructor", made.length, 1);
        Kit.is("it is public and takes nothing", made[0].toString(), "public LaceBonds()");
        for (Class<?> inner : c.getDeclaredClasses()) {
            Kit.is(inner.getName() + " is static", Modifier.isStatic(inner.getModifiers()), true);
            Kit.is(inner.getName() + " is seen inside alone", (inner.getModifiers() & (Modifier.PUBLIC | Modifier.PROTECTED)) == 0, true);
            noNameOfTheFace(inner, names);
        }
        for (Method m : c.getDeclaredMethods()) {
            if (Modifier.isPrivate(m.getModifiers())) {
                Kit.is("private " + m.getName() + " is no name of the face", names.contains(m.getName()), false);
            }
        }
        Kit.close("FaceTest");
    }

    private static void noNameOfTheFace(Class<?> inner, List<String> names) {
        for (Method m : inner.getDeclaredMethods()) {
            Kit.is(inner.getName() + "." + m.getName() + " is no name of the face", names.contains(m.getName()), false);
        }
    }

    private static String signature(Method m) {
        String takes = Arrays.stream(m.getParameterTypes()).map(Class::getSimpleName).collect(Collectors.joining(","));
        String refuses = Arrays.stream(m.getExceptionTypes()).map(e -> " " + e.getSimpleName()).collect(Collectors.joining());
        return m.getReturnType().getSimpleName() + " " + m.getName() + "(" + takes + ")" + refuses;
    }

    private static List<String> sorted(List<String> all) {
        return all.stream().sorted().toList();
    }
}
