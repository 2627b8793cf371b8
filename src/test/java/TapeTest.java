/** Promises 2 and 3: feed, end; and how bytes lie on the TAPE. */
public final class TapeTest {
    public static void main(String[] args) {
        feeding();
        ending();
        order();
        Kit.close("TapeTest");
    }

    private static void feeding() {
        LaceBonds x = new LaceBonds();
        for (int n = 20; n <= 400; n += 20) {
            Kit.is("feed to " + n, x.feed(0, 0, 0, 0, 0), n);
        }
        Kit.is("feed beyond 400", x.feed(1, 2, 3, 4, 5), -1);
        Kit.is("still 400", x.end(400), true);
        Kit.is("not 401", x.end(401), false);
        Kit.is("cut to 381", x.end(381), true);
        Kit.is("381 and 20 are too many", x.feed(0, 0, 0, 0, 0), -1);
        Kit.is("none came", x.end(382), false);
        Kit.is("cut to 380", x.end(380), true);
        Kit.is("380 and 20", x.feed(0, 0, 0, 0, 0), 400);
    }

    private static void ending() {
        LaceBonds x = new LaceBonds();
        Kit.is("end 0 of none", x.end(0), true);
        Kit.is("end 1 of none", x.end(1), false);
        Kit.is("end below 0", x.end(-1), false);
        Kit.is("end far below 0", x.end(Integer.MIN_VALUE), false);
        Kit.is("end far above", x.end(Integer.MAX_VALUE), false);
        x.feed(0, 0, 0, 0, 0);
        Kit.is("end 21 of 20", x.end(21), false);
        Kit.is("end 20 of 20", x.end(20), true);
        Kit.is("end 7 of 20", x.end(7), true);
        Kit.is("end 8 of 7", x.end(8), false);
        Kit.is("behind 7", x.feed(0, 0, 0, 0, 0), 27);
        Kit.is("end below 0 leaves all", x.end(-5), false);
        Kit.is("27 still", x.end(27), true);
    }

    /** Of each number the highest byte first, and bytes are 0 to 255. */
    private static void order() {
        LaceBonds x = new LaceBonds();
        // "day 12" and blanks
        x.feed(0x64617920, 0x31322020, 0x20202020, 0x20202020, 0x20202020);
        Kit.is("land", x.land(), 1);
        Kit.is("day 12", x.count(3), 12);
        Kit.is("used up", x.end(1), false);
        x.feed(0x20202020, 0x20202020, 0x20202020, 0x202020ff, 0x64617920);
        Kit.refuses("byte 255", Kit.ARGUMENT, () -> x.land());
        Kit.is("at byte 15", x.fault(), 15);
        x.feed(0x80202020, 0, 0, 0, 0);
        Kit.refuses("byte 128", Kit.ARGUMENT, () -> x.law());
        Kit.is("at byte 0", x.fault(), 0);
    }
}
