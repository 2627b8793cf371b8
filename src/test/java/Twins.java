/**
 * Objects made alike: on one of them a call is done that must leave no trace, on the other it is not. What they are, what can be
 * undone, THE IMAGE and the TAPE of both are looked at, each on twins of their own, so that none is used for 512 calls.
 */
final class Twins {
    interface Look {
        String at(LaceBonds x);
    }

    /** Three acts are remembered, a LACE is LOST, an IMAGE is kept, the latest text was wrong at 11, the TAPE has 15 bytes. */
    static LaceBonds make() {
        LaceBonds x = Kit.land("person 100 pace 5 at 0;person 20 pace 6 at 10;person 500 pace 4 at 5;person 3 pace 9 at 19"
                + ";pledge 2 to 0 for 20 knot 3 till 50 by 3;pledge 7 to 2 for 9 knot 0 till 1;goal 0 12;goal 1 3;mud 3 4;fine 7");
        Kit.lawOf(x, "slow 1 if even;grow 2 if who<1;fall 30");
        x.days(2);
        x.seed(77);
        x.image();
        x.goal(3, 7);
        x.lend(2, 0, 50, 4, 90);
        Kit.text(x, "fine 7;mud 20");
        Kit.answer(() -> x.land());
        Kit.text(x, "slow 3 if who>1");
        return x;
    }

    /** A call that is refused and does not use the TAPE. */
    static void refused(String what, String exception, Kit.Deed deed) {
        untouched(what, "throws " + exception, deed, 11, false);
    }

    /** A call that is refused and uses the TAPE up, and so does one that tells the TAPE ahead of it. */
    static void refusedWithTape(String what, String exception, int fault, Kit.Deed deed) {
        untouched(what, "throws " + exception, deed, fault, true);
    }

    /** A question, or a call in which nothing happens. */
    static void asked(String what, Object due, Kit.Deed deed) {
        untouched(what, due, deed, 11, false);
    }

    static void askedWithTape(String what, Object due, Kit.Deed deed) {
        untouched(what, due, deed, 11, true);
    }

    private static void untouched(String what, Object due, Kit.Deed deed, int fault, boolean tape) {
        same(what, "all", due, deed, fault, tape, Kit::all);
        same(what, "what is undone", due, deed, fault, tape, Twins::undone);
        same(what, "the image", due, deed, fault, tape, x -> x.back() + brief(x));
        same(what, "the tape", due, deed, fault, tape, Twins::tape);
    }

    private static void same(String what, String of, Object due, Kit.Deed deed, int fault, boolean tape, Look look) {
        LaceBonds one = make();
        LaceBonds other = make();
        Kit.is(what, Kit.answer(() -> deed.on(one)), due);
        Kit.is("fault behind " + what, one.fault(), fault);
        if (tape) {
            other.end(0);
        }
        Kit.is(of + " behind " + what, look.at(one), look.at(other));
    }

    private static String undone(LaceBonds x) {
        StringBuilder out = new StringBuilder();
        for (int i = 0; i < 4; i++) {
            out.append(x.undo()).append(' ').append(brief(x)).append('\n');
        }
        return out.toString();
    }

    /** The bytes of the TAPE are told by what they are as a text of THE LAW. */
    private static String tape(LaceBonds x) {
        StringBuilder out = new StringBuilder();
        out.append(Kit.sizeOfTape(x)).append(' ').append(Kit.answer(() -> x.law())).append(' ').append(x.fault());
        for (int p = 0; p < x.count(0); p++) {
            out.append(' ').append(x.walks(p, 0));
        }
        return out.toString();
    }

    private static String brief(LaceBonds x) {
        StringBuilder out = new StringBuilder();
        for (int what = 0; what <= 10; what++) {
            out.append(x.count(what)).append(' ');
        }
        for (int p = 0; p < x.count(0); p++) {
            out.append(x.person(p, 0)).append(' ').append(x.person(p, 2)).append(' ').append(x.person(p, 3)).append(' ').append(x.person(p, 4)).append(' ');
        }
        for (int l = 0; l < 2 * x.count(0); l++) {
            out.append(x.lace(l, 0)).append(' ').append(x.lace(l, 1)).append(' ').append(x.lace(l, 2)).append(' ').append(x.lace(l, 5)).append(' ');
        }
        return out.append(x.seed(0)).toString();
    }

    private Twins() {
    }
}
