/** Promises 2 and 3: feed, end; and how bytes lie on the TAPE. */
public final class TapeTest {
    public static void main(String[] args) {
        feeding();
        ending();
        order();
        cut();
        full();
        Kit.close("TapeTest");
    }

    private static void feeding() {
        LaceBonds x = new LaceBonds();
        for (int n = 20; n <= 400; n += 20) {
            Kit.is("feed to " + n, x.feed(0, 0, 0, 0, 0), n);
        }
        Kit.is("feed beyond 400", x.feed(1, 2, 3, 4, 5), -1);
        Kit.is("still 400", x.end(400), true);
        Kit.is("not 401", x.end(401), false);
        Kit.is("cut to 381", x.end(381), true);
        Kit.is("381 and 20 are too many", x.feed(0, 0, 0, 0, 0), -1);
        Kit.is("none came", x.end(382), false);
        Kit.is("cut to 380", x.end(380), true);
        Kit.is("380 and 20", x.feed(0, 0, 0, 0, 0), 400);
    }

    private static void ending() {
        LaceBonds x = new LaceBonds();
        Kit.is("end 0 of none", x.end(0), true);
        Kit.is("end 1 of none", x.end(1), false);
        Kit.is("end below 0", x.end(-1), false);
        Kit.is("end far below 0", x.end(Integer.MIN_VALUE), false);
        Kit.is("end far above", x.end(Integer.MAX_VALUE), false);
        x.feed(0, 0, 0, 0, 0);
        Kit.is("end 21 of 20", x.end(21), false);
        Kit.is("end 20 of 20", x.end(20), true);
        Kit.is("end 7 of 20", x.end(7), true);
        Kit.is("end 8 of 7", x.end(8), false);
        Kit.is("behind 7", x.feed(0, 0, 0, 0, 0), 27);
        Kit.is("end below 0 leaves all", x.end(-5), false);
        Kit.is("27 still", x.end(27), true);
    }

    /** Of each number the highest byte first, and bytes are 0 to 255. */
    private static void order() {
        LaceBonds x = new LaceBonds();
        // "day 12" and blanks
        x.feed(0x64617920, 0x31322020, 0x20202020, 0x20202020, 0x20202020);
        Kit.is("land", x.land(), 1);
        Kit.is("day 12", x.count(3), 12);
        Kit.is("used up", x.end(1), false);
        x.feed(0x20202020, 0x20202020, 0x20202020, 0x202020ff, 0x64617920);
        Kit.refuses("byte 255", Kit.ARGUMENT, () -> x.land());
        Kit.is("at byte 15", x.fault(), 15);
        x.feed(0x80202020, 0, 0, 0, 0);
        Kit.refuses("byte 128", Kit.ARGUMENT, () -> x.law());
        Kit.is("at byte 0", x.fault(), 0);
    }

    /** What was fed and cut off again is no part of the text, whatever it would mean. */
    private static void cut() {
        cutAt("day 12", 5, true, -1, 3, 1);
        cutAt("day 12", 3, true, 3, 3, 0);
        cutAt("day 1;day 2", 5, true, -1, 3, 1);
        cutAt("day 1;fine 7", 6, true, 6, 3, 0);
        cutAt("day 1 ;fine 7", 6, true, -1, 4, 5);
        cutAt("fine 7", 3, true, 0, 4, 5);
        cutAt("slow 1;slow 2", 6, false, -1, 2, 1);
        cutAt("slow 1 if even", 7, false, -1, 2, 1);
        cutAt("slow 1 if even and there", 14, false, -1, 2, 1);
        cutAt("slow 1 if (even)", 15, false, 15, 2, -1);
        cutAt("slow 1 if 1 < 2 + 3", 16, false, -1, 2, 1);
        cutAt("slow 1 if 1 < 2 + 3", 12, false, 12, 2, -1);
    }

    private static void cutAt(String text, int size, boolean land, int fault, int what, int due) {
        LaceBonds x = new LaceBonds();
        Kit.text(x, text);
        x.end(size);
        Kit.answer(() -> land ? x.land() : x.law());
        Kit.is("fault of " + text + " cut to " + size, x.fault(), fault);
        Kit.is("what is told by " + text + " cut to " + size, x.count(what), due);
    }

    /** Texts of 400 bytes, whose last thing ends with the TAPE. */
    private static void full() {
        LaceBonds x = new LaceBonds();
        Kit.reads(x, true, " ".repeat(400), 1);
        Kit.reads(x, true, " ".repeat(395) + "day 7", 2);
        Kit.is("day 7", x.count(3), 7);
        Kit.wrongAt(x, true, " ".repeat(394) + "day 7;", 400);
        Kit.wrongAt(x, true, " ".repeat(397) + "day", 400);
        Kit.reads(x, false, "slow 1 if even" + " and even".repeat(42) + "        ", 1);
        Kit.reads(x, false, "slow 1 if 1" + "+1".repeat(193) + "<1", 1);
        Kit.wrongAt(x, false, "slow 1 if 1" + "+1".repeat(194) + "<", 400);
        Kit.wrongAt(x, false, "slow 1 if 1" + "+1".repeat(194) + "+", 400);
        Kit.wrongAt(x, false, " slow 1 if " + "(".repeat(389), 17);
        Kit.wrongAt(x, false, "slow 1 if not(" + "x".repeat(386), 14);
    }
}
