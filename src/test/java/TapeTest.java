/** Promises 2 and 3: feed, end; and how bytes lie on the TAPE. */
public final class TapeTest {
    public static void main(String[] args) {
        feeding();
        ending();
        order();
        cut();
        full();
        eachSize();
        eachPlace();
        eachEnd();
        usedUp();
        Kit.close("TapeTest");
    }

    private static void feeding() {
        LaceBonds x = new LaceBonds();
        for (int n = 20; n <= 400; n += 20) {
            Kit.is("feed to " + n, x.feed(0, 0, 0, 0, 0), n);
        }
        Kit.is("feed beyond 400", x.feed(1, 2, 3, 4, 5), -1);
        Kit.is("still 400", x.end(400), true);
        Kit.is("not 401", x.end(401), false);
        Kit.is("cut to 381", x.end(381), true);
        Kit.is("381 and 20 are too many", x.feed(0, 0, 0, 0, 0), -1);
        Kit.is("none came", x.end(382), false);
        Kit.is("cut to 380", x.end(380), true);
        Kit.is("380 and 20", x.feed(0, 0, 0, 0, 0), 400);
    }

    private static void ending() {
        LaceBonds x = new LaceBonds();
        Kit.is("end 0 of none", x.end(0), true);
        Kit.is("end 1 of none", x.end(1), false);
        Kit.is("end below 0", x.end(-1), false);
        Kit.is("end far below 0", x.end(Integer.MIN_VALUE), false);
        Kit.is("end far above", x.end(Integer.MAX_VALUE), false);
        x.feed(0, 0, 0, 0, 0);
        Kit.is("end 21 of 20", x.end(21), false);
        Kit.is("end 20 of 20", x.end(20), true);
        Kit.is("end 7 of 20", x.end(7), true);
        Kit.is("end 8 of 7", x.end(8), false);
        Kit.is("behind 7", x.feed(0, 0, 0, 0, 0), 27);
        Kit.is("end below 0 leaves all", x.end(-5), false);
        Kit.is("27 still", x.end(27), true);
    }

    /** Of each number the highest byte first, and bytes are 0 to 255. */
    private static void order() {
        LaceBonds x = new LaceBonds();
        // "day 12" and blanks
        x.feed(0x64617920, 0x31322020, 0x20202020, 0x20202020, 0x20202020);
        Kit.is("land", x.land(), 1);
        Kit.is("day 12", x.count(3), 12);
        Kit.is("used up", x.end(1), false);
        x.feed(0x20202020, 0x20202020, 0x20202020, 0x202020ff, 0x64617920);
        Kit.refuses("byte 255", Kit.ARGUMENT, () -> x.land());
        Kit.is("at byte 15", x.fault(), 15);
        x.feed(0x80202020, 0, 0, 0, 0);
        Kit.refuses("byte 128", Kit.ARGUMENT, () -> x.law());
        Kit.is("at byte 0", x.fault(), 0);
    }

    /** What was fed and cut off again is no part of the text, whatever it would mean. */
    private static void cut() {
        cutAt("day 12", 5, true, -1, 3, 1);
        cutAt("day 12", 3, true, 3, 3, 0);
        cutAt("day 1;day 2", 5, true, -1, 3, 1);
        cutAt("day 1;fine 7", 6, true, 6, 3, 0);
        cutAt("day 1 ;fine 7", 6, true, -1, 4, 5);
        cutAt("fine 7", 3, true, 0, 4, 5);
        cutAt("slow 1;slow 2", 6, false, -1, 2, 1);
        cutAt("slow 1 if even", 7, false, -1, 2, 1);
        cutAt("slow 1 if even and there", 14, false, -1, 2, 1);
        cutAt("slow 1 if (even)", 15, false, 15, 2, -1);
        cutAt("slow 1 if 1 < 2 + 3", 16, false, -1, 2, 1);
        cutAt("slow 1 if 1 < 2 + 3", 12, false, 12, 2, -1);
    }

    private static void cutAt(String text, int size, boolean land, int fault, int what, int due) {
        LaceBonds x = new LaceBonds();
        Kit.text(x, text);
        x.end(size);
        Kit.answer(() -> land ? x.land() : x.law());
        Kit.is("fault of " + text + " cut to " + size, x.fault(), fault);
        Kit.is("what is told by " + text + " cut to " + size, x.count(what), due);
    }

    /** Texts of 400 bytes, whose last thing ends with the TAPE. */
    private static void full() {
        LaceBonds x = new LaceBonds();
        Kit.reads(x, true, " ".repeat(400), 1);
        Kit.reads(x, true, " ".repeat(395) + "day 7", 2);
        Kit.is("day 7", x.count(3), 7);
        Kit.wrongAt(LaceBonds::new, true, " ".repeat(394) + "day 7;", 400);
        Kit.wrongAt(LaceBonds::new, true, " ".repeat(397) + "day", 400);
        Kit.reads(x, false, "slow 1 if even" + " and even".repeat(42) + "        ", 1);
        Kit.reads(x, false, "slow 1 if 1" + "+1".repeat(193) + "<1", 1);
        Kit.wrongAt(LaceBonds::new, false, "slow 1 if 1" + "+1".repeat(194) + "<", 400);
        Kit.wrongAt(LaceBonds::new, false, "slow 1 if 1" + "+1".repeat(194) + "+", 400);
        Kit.wrongAt(LaceBonds::new, false, " slow 1 if " + "(".repeat(389), 17);
        Kit.wrongAt(LaceBonds::new, false, "slow 1 if not(" + "x".repeat(386), 14);
    }

    /** With 380 bytes twenty more fit, with 381 none do, and what there was is as it was. */
    private static void eachSize() {
        Kit.sentence("how many it has; NONE, and none come, if it would have more than 400.");
        for (int size = 0; size <= 400; size++) {
            LaceBonds x = new LaceBonds();
            String text = " ".repeat(Math.max(0, size - 6)) + (size < 6 ? " ".repeat(size) : "fine 7");
            Kit.text(x, text);
            boolean fits = size + 20 <= 400;
            Kit.is("feed behind " + size, x.feed(0x3b666967, 0x68742020, 0, -1, 0x20202020), fits ? size + 20 : -1);
            if (fits) {
                Kit.refuses("what came is read", Kit.ARGUMENT, () -> x.land());
                Kit.is("behind what was there", x.fault(), size < 6 ? size : size + 1);
            } else {
                Kit.is("none came", Kit.sizeOfTape(x), size);
                Kit.is("what was there is read", x.land(), 1);
                Kit.is("as it was", x.count(4), 7);
            }
        }
    }

    /** A byte that can stand nowhere, at each of the twenty places. */
    private static void eachPlace() {
        Kit.sentence("Twenty bytes come behind the TAPE, of each number the highest first");
        for (int at = 0; at < 20; at++) {
            for (int wrong : new int[] {0, 1, 31, 33, 64, 123, 127, 128, 255}) {
                int[] numbers = {0x20202020, 0x20202020, 0x20202020, 0x20202020, 0x20202020};
                int shift = 24 - at % 4 * 8;
                numbers[at / 4] = numbers[at / 4] & ~(255 << shift) | wrong << shift;
                LaceBonds x = new LaceBonds();
                Kit.is("20 blanks", x.feed(0x20202020, 0x20202020, 0x20202020, 0x20202020, 0x20202020), 20);
                Kit.is("and 20 more", x.feed(numbers[0], numbers[1], numbers[2], numbers[3], numbers[4]), 40);
                Kit.refuses("byte " + wrong, Kit.ARGUMENT, () -> x.land());
                Kit.is("byte " + wrong + " at " + at, x.fault(), 20 + at);
            }
        }
    }

    private static void eachEnd() {
        Kit.sentence("The TAPE has its first n bytes alone: true; false, and nothing happens, if it has fewer, or n is below 0.");
        for (int size : new int[] {0, 1, 19, 20, 21, 399, 400}) {
            for (int n : new int[] {-1, 0, 1, size - 1, size, size + 1, 401, Integer.MIN_VALUE, Integer.MAX_VALUE}) {
                LaceBonds x = new LaceBonds();
                Kit.tape(x, new int[size]);
                boolean due = n >= 0 && n <= size;
                Kit.is("end " + n + " of " + size, x.end(n), due);
                Kit.is("the tape behind it", Kit.sizeOfTape(x), due ? n : size);
            }
        }
    }

    /** By each call that reads it, also by one that takes it as it is. */
    private static void usedUp() {
        Kit.sentence("Uses the TAPE up");
        LaceBonds x = Kit.land("person 1 pace 1 at 1");
        Kit.is("by a land", x.end(1), false);
        Kit.reads(x, false, "slow 1", 1);
        Kit.is("by a law", x.end(1), false);
        Kit.tape(x, 1);
        Kit.is("carry", x.carry(0), 0);
        Kit.is("by carry", x.end(1), false);
        Kit.tape(x, 0, 0, 1);
        Kit.is("wear", x.wear(false), 1);
        Kit.is("by wear", x.end(1), false);
        Kit.tape(x, 0, 0, 1);
        Kit.is("look", x.look(), -1);
        Kit.is("by look", x.end(1), false);
        Kit.is("an empty text behind it", x.land(), 2);
        Kit.is("an empty law", x.law(), 0);
        Kit.is("no rows", x.wear(false), 2);
        Kit.is("no rows to look", x.look(), 0);
        Kit.refuses("no places for one", Kit.ARGUMENT, () -> x.carry(-1));
    }
}
