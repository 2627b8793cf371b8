/** Promises 24 to 33: rings, untie, owes, leads, call, breaks, mercy, hangs, trust, needed. */
public final class DebtsTest {
    private static final String FOUR = "person 100 pace 5 at 0;person 20 pace 6 at 10;person 50 pace 4 at 5;person 5 pace 3 at 19";

    public static void main(String[] args) {
        rings();
        manyRings();
        leading();
        calling();
        breaking();
        mercies();
        trusting();
        needing();
        refusals();
        Kit.close("DebtsTest");
    }

    private static void rings() {
        LaceBonds x = Kit.land(FOUR);
        ring(x, 0, 0);
        tell(x, "pledge 0 to 1 for 30 knot 2 till 5");
        ring(x, 0, 0);
        tell(x, "pledge 2 to 2 for 30 knot 0 till 9 by 0;pledge 4 to 0 for 30 knot 1 till 9");
        ring(x, 1, 21);
        // two with the same owner and holder: each of them, or none
        tell(x, "pledge 1 to 1 for 30 knot 2 till 5");
        ring(x, 2, 21);
        tell(x, "pledge 6 to 0 for 30 knot 2 till 5");
        ring(x, 2, 21);
        x.days(1);
        Kit.is("grown apart", x.rings(), 0);
        LaceBonds two = Kit.land(FOUR, "pledge 3 to 3 for 7 knot 0 till 9;pledge 7 to 1 for 7 knot 0 till 9");
        ring(two, 1, 136);
        tell(two, "pledge 0 to 2 for 4 knot 0 till 9;pledge 4 to 0 for 4 knot 0 till 9");
        ring(two, 3, 153);
        tell(two, "pledge 2 to 3 for 7 knot 0 till 9");
        ring(two, 5, 149);
        tell(two, "pledge 6 to 1 for 7 knot 0 till 9");
        // of 2, 3, 6, 7 two pairs across, or all; each with or without the other ring, and that alone
        ring(two, 11, 221);
        // sums count: 10 and 5 for 15
        LaceBonds sum = Kit.land(FOUR, "pledge 0 to 1 for 10 knot 0 till 9;pledge 1 to 1 for 5 knot 0 till 9;pledge 2 to 0 for 15 knot 0 till 9");
        ring(sum, 1, 7);
        sum.days(10);
        ring(sum, 0, 0);
        // two rings that share lace 0: the one of three laces, though that of two is less as bits
        LaceBonds shared = Kit.land(FOUR, "pledge 0 to 1 for 3 knot 0 till 9;pledge 2 to 0 for 3 knot 0 till 9;pledge 3 to 2 for 3 knot 0 till 9;pledge 4 to 0 for 3 knot 0 till 9");
        Kit.is("untie asked alone", shared.untie(false), 25);
        ring(shared, 2, 25);
        // two rings of three that share lace 3: the least as bits
        LaceBonds alike = Kit.land(FOUR, "pledge 3 to 2 for 3 knot 0 till 9;pledge 4 to 0 for 3 knot 0 till 9;pledge 0 to 1 for 3 knot 0 till 9;pledge 5 to 3 for 3 knot 0 till 9;pledge 6 to 1 for 3 knot 0 till 9");
        ring(alike, 2, 25);
        LaceBonds either = Kit.land(FOUR, "pledge 6 to 1 for 3 knot 0 till 9;pledge 3 to 3 for 3 knot 0 till 9;pledge 2 to 3 for 3 knot 0 till 9");
        ring(either, 2, 68);
        LaceBonds other = Kit.land(FOUR, "pledge 0 to 1 for 3 knot 0 till 9;pledge 2 to 0 for 3 knot 0 till 9;pledge 3 to 0 for 3 knot 0 till 9");
        ring(other, 2, 5);
    }

    /** All twelve laces in pairs across: each set of pairs that balances. */
    private static void manyRings() {
        LaceBonds x = Kit.land("person 1 pace 1 at 1;".repeat(5) + "person 1 pace 1 at 1");
        for (int p = 0; p < 6; p++) {
            tell(x, "pledge " + 2 * p + " to " + (p ^ 1) + " for 1 knot 0 till 9;pledge " + (2 * p + 1) + " to " + (p ^ 1) + " for 1 knot 0 till 9");
        }
        // of each pair of people: none, or one and one (4 ways), or both and both: 6 ways; 6 * 6 * 6 less none at all
        ring(x, 215, 4095);
    }

    private static void leading() {
        LaceBonds x = Kit.land(FOUR, "person 1 pace 1 at 1;pledge 0 to 1 for 3 knot 2 till 5;pledge 3 to 2 for 3 knot 2 till 5;pledge 6 to 2 for 30 knot 0 till 5");
        int[] due = {6, 4, 0, 4, 0};
        leads(x, due);
        tell(x, "pledge 5 to 0 for 1 knot 0 till 9");
        leads(x, new int[] {7, 7, 7, 7, 0});
        tell(x, "pledge 9 to 3 for 1 knot 0 till 9");
        leads(x, new int[] {7, 7, 7, 7, 15});
        x.days(6);
        Kit.is("lost", x.rail(), 64);
        Kit.is("left laces lead, too", Kit.land(FOUR, "pledge 4 to 0 for 1 knot 0 till 9").leads(2), 1);
        leads(x, new int[] {0, 0, 1, 0, 8});
    }

    private static void calling() {
        LaceBonds x = Kit.land(FOUR, "person 7 pace 1 at 1");
        call(x, 4, 0, 0);
        tell(x, "pledge 0 to 4 for 60 knot 0 till 5;pledge 1 to 4 for 60 knot 0 till 5");
        call(x, 4, 1, 60);
        tell(x, "pledge 2 to 4 for 15 knot 0 till 5;pledge 3 to 4 for 16 knot 0 till 5");
        call(x, 4, 9, 76);
        tell(x, "pledge 4 to 4 for 20 knot 0 till 5;pledge 5 to 4 for 30 knot 0 till 5");
        call(x, 4, 57, 126);
        tell(x, "pledge 6 to 4 for 6 knot 0 till 5;pledge 7 to 0 for 5 knot 0 till 5");
        call(x, 4, 57, 126);
        call(x, 0, 128, 5);
        call(x, 1, 0, 0);
        x.days(6);
        Kit.is("lost ones", x.rail(), 74);
        call(x, 4, 0, 0);
        LaceBonds six = Kit.land(FOUR, "person 7 pace 1 at 1;person 7 pace 1 at 1;pledge 11 to 0 for 7 knot 0 till 9;pledge 10 to 0 for 7 knot 0 till 9");
        call(six, 0, 1024, 7);
        Kit.is("six can lend", six.lends(5), 63);
    }

    private static void breaking() {
        LaceBonds x = Kit.land(FOUR, "pledge 0 to 1 for 30 knot 2 till 5;pledge 6 to 2 for 40 knot 0 till 3 by 1;pledge 7 to 2 for 6 knot 0 till 60;pledge 2 to 0 for 21 knot 0 till 60");
        String before = Kit.all(x);
        Kit.is("by 0", x.breaks(0), 0);
        Kit.is("by 3", x.breaks(3), 0);
        Kit.is("by 4", x.breaks(4), 64);
        Kit.is("by 60", x.breaks(60), 64);
        Kit.is("nothing stays", Kit.all(x), before);
        x.days(5);
        Kit.is("lost now", x.breaks(0), 0);
        Kit.is("paid meanwhile", x.breaks(55), 0);
        Kit.is("not lost now, then", x.breaks(56), 128);
    }

    private static void mercies() {
        LaceBonds x = Kit.land(FOUR, "pledge 0 to 1 for 30 knot 2 till 5;pledge 6 to 2 for 40 knot 0 till 3 by 1;pledge 3 to 0 for 9 knot 9 till 1");
        String before = Kit.all(x);
        Kit.is("two days later", x.mercy(6), 2);
        Kit.is("none needed", x.mercy(0), 0);
        Kit.is("in its shoe", x.mercy(1), -1);
        Kit.is("paid on day 5 it is too much, never", x.mercy(3), -1);
        Kit.is("nothing stays", Kit.all(x), before);
        // Day 60 is the first that is not among the 60 ahead.
        LaceBonds far = Kit.land("person 0 pace 1 at 0;person 0 pace 1 at 0;pledge 0 to 1 for 1 knot 0 till 30;pledge 1 to 1 for 1 knot 0 till 29;pledge 2 to 0 for 1 knot 0 till 60");
        Kit.is("by 30 it is beyond", far.mercy(0), 30);
        Kit.is("31 are too many", far.mercy(1), -1);
        Kit.is("it is beyond now", far.mercy(2), 0);
        far.days(30);
        Kit.is("by 30 again", far.mercy(2), 30);
        far.days(1);
        Kit.is("by 31", far.mercy(2), -1);
        Kit.is("lost", far.lace(0, 0), 2);
        Kit.is("lost: none", far.mercy(0), -1);
        // Ahead nobody falls, so nobody pays fines, whatever the law says.
        LaceBonds fines = Kit.lawOf(Kit.land("person 10 pace 1 at 0;person 0 pace 1 at 0;pledge 0 to 1 for 10 knot 0 till 3;goal 0 9"), "fall 99;fall 9");
        Kit.is("no falls ahead", fines.mercy(0), 0);
        LaceBonds last = Kit.land("person 0 pace 1 at 0;person 9 pace 1 at 0;day 999");
        for (int i = 0; i < 149; i++) {
            last.days(60);
        }
        last.days(50);
        Kit.is("day", last.count(3), 9989);
        last.lend(1, 0, 9, 1, 9995);
        Kit.is("a term is 9999 at most", last.mercy(0), -1);
    }

    private static void trusting() {
        LaceBonds x = Kit.land(FOUR);
        Kit.is("none", x.trust(), -1);
        tell(x, "pledge 0 to 1 for 30 knot 0 till 5;pledge 2 to 0 for 20 knot 0 till 9 by 3");
        Kit.is("one", x.trust(), 3);
        Kit.is("hangs", x.hangs(3), 4);
        Kit.is("hangs not", x.hangs(2), 0);
        tell(x, "pledge 4 to 0 for 21 knot 0 till 9 by 1");
        Kit.is("more", x.trust(), 1);
        tell(x, "pledge 5 to 0 for 1 knot 0 till 9 by 3");
        Kit.is("of several the least", x.trust(), 1);
        Kit.is("two hang", x.hangs(3), 36);
        x.surety(4, -1);
        Kit.is("none told", x.hangs(1), 0);
        Kit.is("now that one", x.trust(), 3);
        LaceBonds first = Kit.land(FOUR, "pledge 2 to 2 for 1 knot 0 till 9 by 0");
        Kit.is("the first one, for 1", first.trust(), 0);
        Kit.is("on the first", first.hangs(0), 4);
        Kit.is("lace 0 hangs", Kit.land(FOUR, "pledge 0 to 1 for 1 knot 0 till 9 by 2").hangs(2), 1);
        x.days(10);
        Kit.is("nothing hangs", x.trust(), -1);
        Kit.is("nothing at all", x.hangs(3), 0);
    }

    private static void needing() {
        LaceBonds x = Kit.land(FOUR, "person 1 pace 1 at 1;person 1 pace 1 at 1");
        Kit.is("nobody", x.needed(), 0);
        tell(x, "pledge 11 to 4 for 1 knot 0 till 1");
        Kit.is("one of two", x.needed(), 16);
        tell(x, "pledge 9 to 3 for 1 knot 0 till 2 by 1");
        Kit.is("in both", x.needed(), 16);
        tell(x, "pledge 10 to 1 for 9 knot 0 till 2");
        Kit.is("two, the least", x.needed(), 18);
        tell(x, "pledge 0 to 5 for 9 knot 0 till 2");
        Kit.is("5 and the least of 1, 3, 4", x.needed(), 34);
        tell(x, "pledge 4 to 3 for 9 knot 0 till 2 by 1");
        Kit.is("5 and 1", x.needed(), 34);
        x.days(2);
        Kit.is("without the paid one", x.needed(), 3);
        x.days(1);
        Kit.is("none pledged", x.needed(), 0);
        Kit.is("a surety is enough", Kit.land(FOUR, "pledge 2 to 2 for 1 knot 0 till 9 by 0;pledge 6 to 2 for 1 knot 0 till 9 by 0").needed(), 1);
    }

    private static void refusals() {
        Kit.Maker world = Kit.of(FOUR);
        for (int p : new int[] {-1, 4, Integer.MIN_VALUE, Integer.MAX_VALUE}) {
            Kit.leaves(world, "owes " + p, Kit.INDEX, x -> x.owes(p, 0));
            Kit.leaves(world, "owes to " + p, Kit.INDEX, x -> x.owes(0, p));
            Kit.leaves(world, "owes both " + p, Kit.INDEX, x -> x.owes(p, p));
            Kit.leaves(world, "leads " + p, Kit.INDEX, x -> x.leads(p));
            Kit.leaves(world, "call " + p, Kit.INDEX, x -> x.call(p, true));
            Kit.leaves(world, "hangs " + p, Kit.INDEX, x -> x.hangs(p));
        }
        Kit.leaves(world, "owes itself", Kit.ARGUMENT, x -> x.owes(3, 3));
        Kit.leaves(world, "breaks -1", Kit.ARGUMENT, x -> x.breaks(-1));
        Kit.leaves(world, "breaks 61", Kit.ARGUMENT, x -> x.breaks(61));
        Kit.leaves(world, "mercy -1", Kit.INDEX, x -> x.mercy(-1));
        Kit.leaves(world, "mercy 8", Kit.INDEX, x -> x.mercy(8));
    }

    private static void tell(LaceBonds x, String text) {
        Kit.text(x, text);
        x.land();
    }

    private static void ring(LaceBonds x, int many, int best) {
        Kit.is("rings", x.rings(), many);
        Kit.is("untie", x.untie(false), best);
        Kit.is("untie, how many", x.untie(true), Integer.bitCount(best));
    }

    private static void call(LaceBonds x, int person, int set, int much) {
        Kit.is("call of " + person, x.call(person, false), set);
        Kit.is("call of " + person + ", how much", x.call(person, true), much);
    }

    private static void leads(LaceBonds x, int[] due) {
        for (int p = 0; p < due.length; p++) {
            Kit.is("leads " + p, x.leads(p), due[p]);
            for (int q = 0; q < due.length; q++) {
                if (p != q) {
                    Kit.is("owes " + p + " " + q, x.owes(p, q), (due[p] >> q & 1) == 1);
                }
            }
        }
    }
}
