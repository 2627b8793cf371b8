/** Promises 18, 19 and 45: days, solvent, seed; what a DAY does. */
public final class DaysTest {
    /** The first draws from SEED 1, by the rule of the document. */
    private static int[] draws(int seed, int many) {
        int[] out = new int[many];
        long s = seed & 0xFFFFFFFFL;
        for (int i = 0; i < many; i++) {
            s = (1103515245L * s + 12345L) % 4294967296L;
            out[i] = (int) (s / 65536 % 32768);
        }
        return out;
    }

    public static void main(String[] args) {
        walking();
        falling();
        draws();
        growing();
        settling();
        settlingByNumbers();
        lastDay();
        solvency();
        refusals();
        Kit.close("DaysTest");
    }

    private static void walking() {
        LaceBonds x = Kit.land("person 10 pace 5 at 0;person 10 pace 3 at 19;person 10 pace 9 at 7;goal 0 12;goal 1 18;goal 2 0");
        Kit.is("nobody fell", x.days(1), 0);
        Kit.is("forward", x.person(0, 2), 5);
        Kit.is("no farther", x.person(1, 2), 18);
        Kit.is("no farther back", x.person(2, 2), 0);
        Kit.is("day", x.count(3), 1);
        x.days(1);
        Kit.is("on", x.person(0, 2), 10);
        x.days(1);
        Kit.is("there", x.person(0, 2), 12);
        x.days(60);
        Kit.is("stays", x.person(0, 2), 12);
        Kit.is("days", x.count(3), 63);
        Kit.is("days of one call are one act", x.count(10), 4);
        x.goal(0, 1);
        x.days(1);
        Kit.is("back", x.person(0, 2), 7);
        LaceBonds still = Kit.land("person 10 pace 2 at 0;person 10 pace 1 at 0;pledge 0 to 1 for 1 knot 0 till 999;goal 0 5");
        Kit.is("slack by one: 0 places", still.ahead(0, 60, false), 0);
    }

    private static void falling() {
        LaceBonds x = Kit.lawOf(Kit.land("person 12 pace 5 at 0;person 100 pace 3 at 9;person 7 pace 1 at 3;goal 0 12;goal 1 10"), "fall 99;fall 99");
        Kit.is("two fall", x.days(1), 2);
        Kit.is("it stays", x.person(0, 2), 0);
        Kit.is("the fine", x.person(0, 0), 7);
        Kit.is("tired", x.person(0, 4), 1);
        Kit.is("who is there does not fall", x.person(2, 4), 0);
        Kit.is("falls", x.days(3), 6);
        Kit.is("0 at least", x.person(0, 0), 0);
        Kit.is("falls of the other", x.person(1, 0), 80);
        x.days(9);
        Kit.is("tired 9 at most", x.person(0, 4), 9);
        Kit.is("falls in all", x.count(8), 26);
        Kit.text(x, "fine 33");
        x.land();
        x.days(1);
        Kit.is("the fine told", x.person(1, 0), 2);
        Kit.text(x, "fall 0");
        x.law();
        Kit.is("0 never", x.days(1), 0);
        Kit.is("walks again", x.person(1, 2), 10);
    }

    /** Who falls by N falls just when the draw modulo 100 is below N. */
    private static void draws() {
        int[] draws = draws(1, 40);
        LaceBonds x = Kit.lawOf(Kit.land("person 900 pace 1 at 0;person 900 pace 1 at 0;person 900 pace 1 at 0;goal 0 19;goal 2 19;fine 1"), "fall 40;slow 9");
        int fell = 0;
        for (int day = 0; day < 20; day++) {
            int due = (draws[2 * day] % 100 < 40 ? 1 : 0) + (draws[2 * day + 1] % 100 < 40 ? 1 : 0);
            Kit.is("falls of day " + day, x.days(1), due);
            fell += due;
        }
        Kit.is("falls in all", x.count(8), fell);
        int edge = draws[0] % 100;
        LaceBonds y = Kit.lawOf(Kit.land("person 9 pace 1 at 0;goal 0 9"), "fall " + edge);
        Kit.is("not below", y.days(1), 0);
        y = Kit.lawOf(Kit.land("person 9 pace 1 at 0;goal 0 9"), "fall " + (edge + 1));
        Kit.is("below", y.days(1), 1);
        Kit.is("the seed goes on", y.seed(77), 1103527590);
        Kit.is("the seed told", y.seed(-5), 77);
        Kit.is("seed is no act", y.count(10), 1);
        Kit.is("any seed", y.seed(Integer.MIN_VALUE), -5);
        y.seed(-123456789);
        int low = draws(-123456789, 1)[0] % 100;
        Kit.text(y, "fall " + low);
        y.law();
        y.rest(0);
        Kit.is("a seed below 0: not below", y.days(1), 0);
        LaceBonds z = Kit.land("person 9 pace 1 at 0;person 9 pace 1 at 3");
        z.days(60);
        Kit.is("no draw for who is there", z.seed(1), 1);
        z.goal(1, 0);
        z.days(1);
        Kit.is("one draw, also if it falls by 0", z.seed(1), 1103527590);
    }

    private static void growing() {
        LaceBonds x = Kit.land("person 10 pace 5 at 0;person 10 pace 3 at 19;pledge 0 to 1 for 5 knot 2 till 900;pledge 3 to 0 for 990 knot 4 till 900;goal 0 3");
        Kit.lawOf(x, "grow 3 if place > 2");
        x.days(1);
        Kit.is("grown as it stands when walked", x.lace(0, 2), 10);
        Kit.is("grown to", x.lace(3, 2), 997);
        x.days(1);
        Kit.is("grown again", x.lace(0, 2), 15);
        Kit.is("999 at most", x.lace(3, 2), 999);
        Kit.lawOf(x, "grow 3 if day > 2");
        x.days(1);
        Kit.is("the day counts only behind", x.lace(0, 2), 17);
        x.days(1);
        Kit.is("then it counts", x.lace(0, 2), 22);
    }

    private static void settling() {
        LaceBonds x = Kit.land("person 10 pace 5 at 0;person 30 pace 3 at 19;person 0 pace 1 at 0;pledge 0 to 2 for 10 knot 0 till 2 by 1"
                + ";pledge 1 to 2 for 10 knot 0 till 3 by 1;pledge 2 to 0 for 5 knot 5 till 5 by 2;pledge 5 to 0 for 50 knot 0 till 6 by 1");
        x.days(2);
        Kit.is("not yet", x.lace(0, 0), 1);
        x.days(1);
        Kit.is("the owner paid", x.person(0, 0), 0);
        Kit.is("to the holder", x.person(2, 0), 10);
        Kit.is("in its shoe", x.lace(0, 0), 0);
        x.days(1);
        Kit.is("the surety paid", x.person(1, 0), 20);
        Kit.is("to the holder again", x.person(2, 0), 20);
        Kit.is("nothing of the owner", x.person(0, 0), 0);
        Kit.is("in its shoe, too", x.lace(1, 0), 0);
        x.days(2);
        Kit.is("35 is too much for both: lost", x.lace(2, 0), 2);
        Kit.is("kept", x.lace(2, 1), 0);
        Kit.is("none paid", x.count(7), 40);
        x.days(1);
        Kit.is("lost, too", x.lace(5, 0), 2);
        Kit.is("day", x.count(3), 7);
        int[][] rows = {{6, 5, 2, 50}, {5, 2, 2, 35}, {3, 1, 1, 10}, {2, 0, 1, 10}};
        for (int ago = 0; ago < 4; ago++) {
            for (int what = 0; what < 4; what++) {
                Kit.is("row " + ago + " what " + what, x.log(ago, what), rows[ago][what]);
            }
        }
        LaceBonds just = Kit.land("person 9 pace 5 at 0;person 0 pace 3 at 19;person 10 pace 1 at 0;pledge 0 to 1 for 10 knot 0 till 1 by 2");
        just.days(2);
        Kit.is("the surety's purse is just enough", just.lace(0, 0), 0);
        Kit.is("nothing is left of it", just.person(2, 0), 0);
        LaceBonds late = Kit.land("person 10 pace 5 at 0;person 995 pace 3 at 19;pledge 0 to 1 for 10 knot 0 till 2;day 50");
        late.days(1);
        Kit.is("a term gone by", late.lace(0, 0), 0);
        Kit.is("999 at most", late.person(1, 0), 999);
    }

    /** What is paid for a lace ahead can pay for one behind, not the other way. */
    private static void settlingByNumbers() {
        LaceBonds x = Kit.land("person 10 pace 5 at 0;person 0 pace 3 at 19;person 0 pace 3 at 19;pledge 0 to 1 for 10 knot 0 till 1"
                + ";pledge 2 to 2 for 10 knot 0 till 1;pledge 5 to 0 for 10 knot 0 till 1");
        x.days(2);
        Kit.is("all in their shoes", x.count(5) + x.rail(), 0);
        Kit.is("round", x.person(0, 0), 10);
        LaceBonds y = Kit.land("person 0 pace 5 at 0;person 0 pace 3 at 19;person 10 pace 3 at 19;pledge 0 to 1 for 10 knot 0 till 1"
                + ";pledge 2 to 2 for 10 knot 0 till 1;pledge 5 to 0 for 10 knot 0 till 1");
        y.days(2);
        Kit.is("two lost", y.rail(), 5);
        Kit.is("one paid", y.person(0, 0), 10);
    }

    private static void lastDay() {
        LaceBonds x = Kit.land("person 10 pace 5 at 0;day 999;person 1 pace 1 at 0");
        for (int i = 0; i < 150; i++) {
            x.days(60);
        }
        Kit.is("day 9999", x.count(3), 9999);
        x.days(60);
        Kit.is("9999 at most", x.count(3), 9999);
        x.lend(0, 2, 10, 0, 9999);
        x.days(1);
        Kit.is("paid on day 9999", x.lace(2, 0), 0);
        Kit.is("logged on day 9999", x.log(0, 0), 9999);
    }

    private static void solvency() {
        LaceBonds x = Kit.land("person 10 pace 5 at 0;person 9 pace 3 at 19;person 0 pace 3 at 19;person 5 pace 1 at 1;pledge 0 to 1 for 4 knot 0 till 1"
                + ";pledge 1 to 2 for 6 knot 0 till 9;pledge 2 to 0 for 10 knot 0 till 99;pledge 6 to 0 for 6 knot 0 till 1");
        Kit.is("solvent", x.solvent(), 5);
        x.days(2);
        Kit.is("what is lost is not owed", x.solvent(), 15);
        x.lend(0, 4, 1, 0, 9);
        Kit.is("one less", x.solvent(), 14);
    }

    private static void refusals() {
        Kit.Maker world = Kit.of("person 10 pace 5 at 0;goal 0 5");
        Kit.leaves(world, "days 0", Kit.ARGUMENT, x -> x.days(0));
        Kit.leaves(world, "days 61", Kit.ARGUMENT, x -> x.days(61));
        Kit.leaves(world, "days -1", Kit.ARGUMENT, x -> x.days(-1));
        Kit.is("days 60", world.make().days(60), 0);
    }
}
