import java.io.IOException;
import java.io.UncheckedIOException;
import java.nio.file.Files;
import java.nio.file.Path;
import java.util.stream.Stream;

/** What all tests share: texts onto the TAPE, answers compared, exceptions named. */
final class Kit {
    /** A call of the face whose answer, or whose exception, is looked at. */
    interface Call {
        Object run();
    }

    /** What is done with an object. */
    interface Deed {
        Object on(LaceBonds x);
    }

    /** How objects are made alike: each check gets its own, as the document promises nothing behind the 512th call of one. */
    interface Maker {
        LaceBonds make();

        /** The same, and then this is done. */
        default Maker then(Deed deed) {
            return () -> {
                LaceBonds x = make();
                deed.on(x);
                return x;
            };
        }

        /** The same, and then this text of THE LAW is told. */
        default Maker law(String text) {
            return () -> lawOf(make(), text);
        }
    }

    static final String INDEX = "IndexOutOfBoundsException";
    static final String ARGUMENT = "IllegalArgumentException";
    static final String STATE = "IllegalStateException";
    static final String ELEMENT = "NoSuchElementException";
    static final String UNSUPPORTED = "UnsupportedOperationException";

    private static int checks = 0;
    private static int wrong = 0;
    private static String document = "";
    private static String sentence = "";

    private Kit() {
    }

    /** The words of the document that the checks behind this call are for; they must stand there just so. */
    static void sentence(String words) {
        if (document.isEmpty()) {
            document = documentOnOneLine();
        }
        sentence = "";
        is("the document says \"" + words + "\"", document.contains(words), true);
        sentence = "\"" + words + "\": ";
    }

    private static String documentOnOneLine() {
        try {
            return Files.readString(Path.of("../shared/DOC.md")).replaceAll("\\s+", " ");
        } catch (IOException e) {
            throw new UncheckedIOException(e);
        }
    }

    static void is(String what, Object got, Object due) {
        checks++;
        if (!due.equals(got)) {
            wrong++;
            System.out.println(sentence + what + ": got " + got + ", due is " + due);
        }
    }

    /** The exception must be of the very class that the document names, not of one below it. */
    static void refuses(String what, String exception, Call call) {
        is(what, answer(call), "throws " + exception);
    }

    static Object answer(Call call) {
        try {
            return call.run();
        } catch (RuntimeException e) {
            return "throws " + e.getClass().getSimpleName();
        }
    }

    static void tape(LaceBonds x, int... bytes) {
        x.end(0);
        int[] padded = java.util.Arrays.copyOf(bytes, (bytes.length + 19) / 20 * 20);
        for (int i = 0; i < padded.length; i += 20) {
            x.feed(four(padded, i), four(padded, i + 4), four(padded, i + 8), four(padded, i + 12), four(padded, i + 16));
        }
        if (!x.end(bytes.length)) {
            throw new AssertionError("the tape does not take " + bytes.length + " bytes");
        }
    }

    static void text(LaceBonds x, String text) {
        tape(x, text.chars().toArray());
    }

    static int four(int[] bytes, int at) {
        return bytes[at] << 24 | bytes[at + 1] << 16 | bytes[at + 2] << 8 | bytes[at + 3];
    }

    /** A new object with these texts of THE LAND. */
    static LaceBonds land(String... texts) {
        LaceBonds x = new LaceBonds();
        for (String text : texts) {
            text(x, text);
            x.land();
        }
        return x;
    }

    /** New objects with these texts of THE LAND. */
    static Maker of(String... texts) {
        return () -> land(texts);
    }

    static LaceBonds lawOf(LaceBonds x, String text) {
        text(x, text);
        x.law();
        return x;
    }

    /** A text that must be read to its end: no fault, and the answer that is due. */
    static void reads(LaceBonds x, boolean land, String text, int due) {
        text(x, text);
        is((land ? "land " : "law ") + text, answer(() -> land ? x.land() : x.law()), due);
        is("fault of " + text, x.fault(), LaceBonds.NONE);
    }

    /** A text that must be refused at that byte, and that leaves all as it is with one made alike, to which it is not told. */
    static void wrongAt(Maker world, boolean land, String text, int at) {
        LaceBonds x = world.make();
        text(x, text);
        refuses((land ? "land " : "law ") + text, ARGUMENT, () -> land ? x.land() : x.law());
        is("fault of " + text, x.fault(), at);
        is("the tape behind " + text, x.end(1), false);
        is("state behind " + text, all(x), all(world.make()));
    }

    /** How many bytes the TAPE has; it still has them all. */
    static int sizeOfTape(LaceBonds x) {
        int size = 400;
        while (!x.end(size)) {
            size--;
        }
        return size;
    }

    /** A call that must be refused, and that leaves all as it is with one made alike, on which it is not done. */
    static void leaves(Maker world, String what, String exception, Deed call) {
        same(world, what, "throws " + exception, call);
    }

    /** What is only asked: the answer that is due, and all as it is with one made alike, which is not asked. */
    static void asks(Maker world, String what, Object due, Deed question) {
        same(world, what, due, question);
    }

    private static void same(Maker world, String what, Object due, Deed deed) {
        LaceBonds x = world.make();
        is(what, answer(() -> deed.on(x)), due);
        is("state behind " + what, all(x), all(world.make()));
    }

    /** All that can be asked of an object without changing it, but for fault() and the TAPE. */
    static String all(LaceBonds x) {
        StringBuilder out = new StringBuilder();
        for (int what = 0; what <= 10; what++) {
            out.append(x.count(what)).append(' ');
        }
        int people = x.count(0);
        for (int person = 0; person < people; person++) {
            out.append("\nperson");
            for (int what = 0; what <= 10; what++) {
                out.append(' ').append(x.person(person, what));
            }
            out.append(' ').append(x.walks(person, 0)).append(' ').append(x.walks(person, 1));
        }
        for (int lace = 0; lace < 2 * people; lace++) {
            out.append("\nlace");
            for (int what = 0; what <= 5; what++) {
                out.append(' ').append(x.lace(lace, what));
            }
            out.append(' ').append(x.grows(lace)).append(' ').append(x.led(lace, false)).append(' ').append(x.led(lace, true));
        }
        out.append("\nmud");
        for (int place = 0; place < 20; place++) {
            out.append(' ').append(x.mud(place));
        }
        for (int ago = 0; ago < x.count(9); ago++) {
            out.append("\nlog");
            for (int what = 0; what <= 3; what++) {
                out.append(' ').append(x.log(ago, what));
            }
        }
        int seed = x.seed(0);
        x.seed(seed);
        return out.append("\nseed ").append(seed).toString();
    }

    /** A directory with all that is in it. */
    static void delete(Path dir) throws IOException {
        try (Stream<Path> files = Files.walk(dir)) {
            for (Path file : files.sorted((a, b) -> b.compareTo(a)).toList()) {
                Files.delete(file);
            }
        }
    }

    static void close(String name) {
        System.out.println(name + ": " + checks + " checks, " + wrong + " wrong");
        if (wrong != 0 || checks == 0) {
            System.exit(1);
        }
    }
}
