/** Promises 7 to 9 and 49: person, lace, mud, count. */
public final class PeopleTest {
    public static void main(String[] args) {
        people();
        shares();
        laces();
        counts();
        refusals();
        Kit.close("PeopleTest");
    }

    private static void people() {
        LaceBonds x = Kit.land("person 100 pace 5 at 0;person 20 pace 6 at 10;person 50 pace 4 at 5;pledge 0 to 1 for 30 knot 2 till 5"
                + ";pledge 1 to 2 for 7 knot 0 till 9;pledge 3 to 2 for 90 knot 1 till 9;goal 1 4");
        int[][] due = {
            {100, 5, 0, 0, 0, 3, 0, 37, 0, 63, 0},
            {20, 6, 10, 4, 0, 2, 1, 90, 30, -40, 0},
            {50, 4, 5, 5, 0, 0, 10, 0, 97, 147, 0},
        };
        for (int p = 0; p < 3; p++) {
            for (int what = 0; what <= 10; what++) {
                Kit.is("person " + p + " what " + what, x.person(p, what), due[p][what]);
            }
        }
        x.pay(0);
        Kit.is("gait with the right one off", x.person(0, 5), 2);
        Kit.is("gait of the left one", x.lend(2, 2, 1, 0, 9), 49);
        Kit.is("both off", x.person(1, 5), 3);
        x.pay(3 - 1);
        Kit.is("right alone", x.person(1, 5), 2);
    }

    /** Three laces are lost, two to one holder and one to another: 66 and 33 hundredths. */
    private static void shares() {
        LaceBonds x = Kit.land("person 0 pace 1 at 0;person 0 pace 1 at 0;person 0 pace 1 at 0;pledge 0 to 1 for 5 knot 1 till 1"
                + ";pledge 1 to 2 for 5 knot 0 till 1;pledge 5 to 1 for 5 knot 0 till 1;pledge 2 to 0 for 5 knot 0 till 9");
        Kit.is("share without lost ones", x.person(1, 10), 0);
        x.days(1);
        Kit.is("not lost on day 0", x.rail(), 0);
        x.days(1);
        Kit.is("lost on day 1", x.rail(), 35);
        Kit.is("share of two of three", x.person(1, 10), 66);
        Kit.is("share of one of three", x.person(2, 10), 33);
        Kit.is("share of none", x.person(0, 10), 0);
        Kit.is("lost ones are held", x.person(1, 6), 33);
        Kit.is("lost ones make the gait", x.person(0, 5), 3);
        Kit.is("lost ones are not owed", x.person(0, 7), 0);
        Kit.is("lost ones are not due", x.person(1, 8), 0);
        Kit.is("worth without them", x.person(1, 9), -5);
        Kit.is("held, pledged", x.person(0, 6), 4);
    }

    private static void laces() {
        LaceBonds x = Kit.land("person 9 pace 1 at 0;person 9 pace 1 at 0;person 9 pace 1 at 0;pledge 3 to 0 for 5 knot 7 till 1 by 2");
        is(x, 3, 1, 0, 5, 7, 1, 2);
        is(x, 2, 0, -1, 0, 0, 0, -1);
        x.days(1);
        is(x, 3, 1, 0, 12, 7, 1, 2);
        x.days(1);
        is(x, 3, 2, 0, 0, 0, 0, -1);
        Kit.is("nothing hangs on it any more", x.hangs(2), 0);
    }

    private static void counts() {
        LaceBonds x = Kit.land("person 100 pace 5 at 0;person 20 pace 6 at 10;pledge 0 to 1 for 30 knot 2 till 5;pledge 3 to 0 for 7 knot 2 till 5", "fine 3;day 7");
        Kit.lawOf(x, "fall 99;fall 1;slow 1");
        x.goal(0, 9);
        x.days(1);
        int[] due = {2, 2, 3, 8, 3, 0, 0, 117, 1, 2, 2};
        for (int what = 0; what < due.length; what++) {
            Kit.is("count " + what, x.count(what), due[what]);
        }
        x.lend(1, 1, 20, 0, 99);
        x.lend(0, 2, 50, 0, 99);
        Kit.is("pledged", x.count(5), 6);
        Kit.is("amounts", x.count(6), 70);
        Kit.is("purses", x.count(7), 117);
        Kit.is("count 11", x.count(11), -1);
        Kit.is("count -1", x.count(-1), -1);
        Kit.is("count far", x.count(Integer.MIN_VALUE), -1);
    }

    private static void refusals() {
        Kit.Maker world = Kit.of("person 9 pace 1 at 0;person 9 pace 1 at 0;mud 19 3;mud 0 2");
        Kit.leaves(world, "person -1", Kit.INDEX, x -> x.person(-1, 0));
        Kit.leaves(world, "person 2", Kit.INDEX, x -> x.person(2, 99));
        Kit.leaves(world, "person what 11", Kit.ELEMENT, x -> x.person(1, 11));
        Kit.leaves(world, "person what -1", Kit.ELEMENT, x -> x.person(0, -1));
        Kit.leaves(world, "lace -1", Kit.INDEX, x -> x.lace(-1, 0));
        Kit.leaves(world, "lace 4", Kit.INDEX, x -> x.lace(4, 9));
        Kit.leaves(world, "lace far", Kit.INDEX, x -> x.lace(Integer.MAX_VALUE, 0));
        Kit.leaves(world, "lace what 6", Kit.ELEMENT, x -> x.lace(3, 6));
        Kit.leaves(world, "lace what -1", Kit.ELEMENT, x -> x.lace(0, -1));
        Kit.leaves(world, "mud -1", Kit.INDEX, x -> x.mud(-1));
        Kit.leaves(world, "mud 20", Kit.INDEX, x -> x.mud(20));
        LaceBonds x = world.make();
        Kit.is("mud 19", x.mud(19), 3);
        Kit.is("mud 0", x.mud(0), 2);
        Kit.is("mud 1", x.mud(1), 0);
    }

    private static void is(LaceBonds x, int lace, int... due) {
        for (int what = 0; what < due.length; what++) {
            Kit.is("lace " + lace + " what " + what, x.lace(lace, what), due[what]);
        }
    }
}
