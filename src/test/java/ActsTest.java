/** Promises 12 to 17: lend, pay, surety, give, goal, rest. */
public final class ActsTest {
    private static final String FOUR = "person 100 pace 5 at 0;person 20 pace 6 at 10;person 990 pace 4 at 5;person 0 pace 1 at 1";

    public static void main(String[] args) {
        lending();
        lendingRefused();
        paying();
        payingRefused();
        sureties();
        suretiesRefused();
        giving();
        givingRefused();
        goals();
        resting();
        Kit.close("ActsTest");
    }

    private static void lending() {
        LaceBonds x = Kit.land(FOUR + ";day 9");
        Kit.is("lend", x.lend(0, 2, 30, 4, 9999), 70);
        Kit.is("the owner has more", x.person(1, 0), 50);
        int[] due = {1, 0, 30, 4, 9999, -1};
        for (int what = 0; what < 6; what++) {
            Kit.is("lace 2 what " + what, x.lace(2, what), due[what]);
        }
        row(x, 9, 2, 0, 30);
        Kit.is("999 at most", x.lend(0, 4, 20, 0, 1), 50);
        Kit.is("999 at most is had", x.person(2, 0), 999);
        Kit.is("all of a purse", x.lend(2, 7, 999, 9, 1), 0);
        Kit.is("to whom has none", x.person(3, 0), 999);
        row(x, 9, 7, 0, 999);
        Kit.is("rows", x.count(9), 3);
        Kit.is("acts", x.count(10), 3);
    }

    private static void lendingRefused() {
        Kit.Maker world = Kit.of(FOUR + ";pledge 3 to 0 for 5 knot 0 till 1;pledge 7 to 0 for 5 knot 0 till 1");
        Kit.leaves(world, "holder -1", Kit.INDEX, x -> x.lend(-1, 0, 0, 0, 0));
        Kit.leaves(world, "holder 4", Kit.INDEX, x -> x.lend(4, 0, 5, 0, 5));
        Kit.leaves(world, "lace -1", Kit.INDEX, x -> x.lend(0, -1, 5, 0, 5));
        Kit.leaves(world, "lace 8", Kit.INDEX, x -> x.lend(0, 8, 0, 10, 0));
        Kit.leaves(world, "its owner", Kit.ARGUMENT, x -> x.lend(0, 1, 5, 0, 5));
        Kit.leaves(world, "its owner, and pledged", Kit.ARGUMENT, x -> x.lend(1, 3, 5, 0, 5));
        Kit.leaves(world, "amount 0", Kit.ARGUMENT, x -> x.lend(0, 2, 0, 0, 5));
        Kit.leaves(world, "amount 1000", Kit.ARGUMENT, x -> x.lend(0, 2, 1000, 0, 5));
        Kit.leaves(world, "knot -1", Kit.ARGUMENT, x -> x.lend(0, 2, 5, -1, 5));
        Kit.leaves(world, "knot 10", Kit.ARGUMENT, x -> x.lend(0, 2, 5, 10, 5));
        Kit.leaves(world, "term 0", Kit.ARGUMENT, x -> x.lend(0, 2, 5, 0, 0));
        Kit.leaves(world, "term 10000", Kit.ARGUMENT, x -> x.lend(0, 2, 5, 0, 10000));
        Kit.leaves(world, "pledged, and no term", Kit.ARGUMENT, x -> x.lend(0, 3, 5, 0, 0));
        Kit.leaves(world, "pledged", Kit.STATE, x -> x.lend(0, 3, 5, 0, 5));
        Kit.leaves(world, "the purse is less", Kit.STATE, x -> x.lend(0, 2, 101, 0, 5));
        Kit.leaves(world, "none in the purse", Kit.STATE, x -> x.lend(3, 2, 1, 0, 5));
        Kit.Maker later = world.then(x -> x.days(2));
        Kit.leaves(later, "lost", Kit.STATE, x -> x.lend(2, 7, 5, 0, 5));
        LaceBonds one = later.make();
        Kit.is("lost it is", one.lace(7, 0), 2);
        Kit.is("just the purse", one.lend(0, 2, 105, 0, 5), 0);
    }

    private static void paying() {
        LaceBonds x = payers().make();
        Kit.is("pay all one has", x.pay(2), 20);
        Kit.is("the purse", x.person(1, 0), 0);
        Kit.is("the holder's", x.person(0, 0), 120);
        Kit.is("in its shoe", x.lace(2, 0), 0);
        Kit.is("no holder", x.lace(2, 1), -1);
        Kit.is("no surety", x.lace(2, 5), -1);
        row(x, 3, 2, 1, 20);
        Kit.is("pay", x.pay(1), 50);
        Kit.is("999 at most", x.person(2, 0), 999);
        Kit.is("of the own purse", x.person(0, 0), 70);
        Kit.is("acts", x.count(10), 2);
    }

    private static void payingRefused() {
        Kit.Maker paid = payers().then(x -> x.pay(2));
        Kit.leaves(paid, "lace -1", Kit.INDEX, x -> x.pay(-1));
        Kit.leaves(paid, "lace 8", Kit.INDEX, x -> x.pay(8));
        Kit.leaves(paid, "in its shoe", Kit.STATE, x -> x.pay(2));
        Kit.leaves(paid, "the purse is less", Kit.STATE, x -> x.pay(6));
        Kit.leaves(paid.then(x -> x.days(1)), "lost", Kit.STATE, x -> x.pay(6));
    }

    private static Kit.Maker payers() {
        return Kit.of(FOUR + ";pledge 2 to 0 for 20 knot 3 till 50 by 2;pledge 1 to 2 for 50 knot 0 till 50;pledge 6 to 2 for 1 knot 0 till 1;day 3");
    }

    private static void sureties() {
        LaceBonds x = Kit.land(FOUR + ";pledge 2 to 0 for 20 knot 3 till 50;pledge 6 to 2 for 1 knot 0 till 1");
        Kit.is("first", x.surety(2, 3), -1);
        Kit.is("told", x.lace(2, 5), 3);
        Kit.is("second", x.surety(2, 2), 3);
        Kit.is("none", x.surety(2, -1), 2);
        Kit.is("none is told", x.lace(2, 5), -1);
        Kit.is("none again", x.surety(2, -1), -1);
        Kit.is("all are acts", x.count(10), 4);
        Kit.is("no row", x.count(9), 0);
    }

    private static void suretiesRefused() {
        Kit.Maker world = Kit.of(FOUR + ";pledge 2 to 0 for 20 knot 3 till 50;pledge 6 to 2 for 1 knot 0 till 1");
        Kit.leaves(world, "lace -1", Kit.INDEX, x -> x.surety(-1, 0));
        Kit.leaves(world, "lace 8", Kit.INDEX, x -> x.surety(8, -1));
        Kit.leaves(world, "person -2", Kit.INDEX, x -> x.surety(2, -2));
        Kit.leaves(world, "person 4", Kit.INDEX, x -> x.surety(2, 4));
        Kit.leaves(world, "person 4, in its shoe", Kit.INDEX, x -> x.surety(3, 4));
        Kit.leaves(world, "owner", Kit.ARGUMENT, x -> x.surety(2, 1));
        Kit.leaves(world, "holder", Kit.ARGUMENT, x -> x.surety(2, 0));
        Kit.leaves(world, "owner, in its shoe", Kit.ARGUMENT, x -> x.surety(3, 1));
        Kit.leaves(world, "in its shoe", Kit.STATE, x -> x.surety(3, 0));
        Kit.leaves(world, "none, in its shoe", Kit.STATE, x -> x.surety(3, -1));
        Kit.Maker later = world.then(x -> x.days(2));
        Kit.leaves(later, "holder, lost", Kit.ARGUMENT, x -> x.surety(6, 2));
        Kit.leaves(later, "lost", Kit.STATE, x -> x.surety(6, 0));
        Kit.leaves(later, "none, lost", Kit.STATE, x -> x.surety(6, -1));
    }

    private static void giving() {
        LaceBonds x = givers().make();
        Kit.is("give", x.give(2, 0), 2);
        Kit.is("the new holder", x.lace(2, 1), 0);
        Kit.is("it has paid", x.person(0, 0), 80);
        Kit.is("999 at most", x.person(2, 0), 999);
        Kit.is("all else as it is", x.lace(2, 2) * 10000 + x.lace(2, 3) * 1000 + x.lace(2, 4) * 10 + x.lace(2, 5), 203503);
        Kit.is("not logged", x.count(9), 0);
        Kit.is("an act", x.count(10), 1);
        Kit.is("give the other", x.give(4, 0), 1);
        Kit.is("into the purse before", x.person(1, 0), 40);
        x.lend(0, 5, 40, 0, 50);
        Kit.is("give for just the purse", x.give(5, 1), 0);
        Kit.is("nothing is left of it", x.person(1, 0), 0);
    }

    private static void givingRefused() {
        Kit.Maker given = givers().then(x -> x.give(2, 0)).then(x -> x.give(4, 0)).then(x -> x.lend(0, 5, 40, 0, 50)).then(x -> x.give(5, 1));
        Kit.leaves(given, "lace -1", Kit.INDEX, x -> x.give(-1, 0));
        Kit.leaves(given, "lace 8", Kit.INDEX, x -> x.give(8, 0));
        Kit.leaves(given, "person -1", Kit.INDEX, x -> x.give(2, -1));
        Kit.leaves(given, "person 4", Kit.INDEX, x -> x.give(2, 4));
        Kit.leaves(given, "owner", Kit.ARGUMENT, x -> x.give(2, 1));
        Kit.leaves(given, "holder", Kit.ARGUMENT, x -> x.give(2, 0));
        Kit.leaves(given, "surety", Kit.ARGUMENT, x -> x.give(2, 3));
        Kit.leaves(given, "owner, in its shoe", Kit.ARGUMENT, x -> x.give(3, 1));
        Kit.leaves(given, "in its shoe", Kit.STATE, x -> x.give(3, 2));
        Kit.leaves(given, "the purse is less", Kit.STATE, x -> x.give(4, 1));
        Kit.Maker later = given.then(x -> x.days(2));
        Kit.leaves(later, "holder, lost", Kit.ARGUMENT, x -> x.give(6, 2));
        Kit.leaves(later, "lost", Kit.STATE, x -> x.give(6, 0));
    }

    private static Kit.Maker givers() {
        return Kit.of(FOUR + ";pledge 2 to 2 for 20 knot 3 till 50 by 3;pledge 4 to 1 for 20 knot 1 till 50;pledge 6 to 2 for 1 knot 0 till 1");
    }

    private static void goals() {
        Kit.Maker world = Kit.of(FOUR);
        Kit.leaves(world, "person -1", Kit.INDEX, x -> x.goal(-1, 0));
        Kit.leaves(world, "person 4", Kit.INDEX, x -> x.goal(4, 0));
        Kit.leaves(world, "place -1", Kit.INDEX, x -> x.goal(0, -1));
        Kit.leaves(world, "place 20", Kit.INDEX, x -> x.goal(0, 20));
        LaceBonds x = world.make();
        Kit.is("goal was its place", x.goal(1, 19), 10);
        Kit.is("goal was", x.goal(1, 0), 19);
        Kit.is("goal the same", x.goal(1, 0), 0);
        Kit.is("goal is", x.person(1, 3), 0);
        Kit.is("acts", x.count(10), 3);
    }

    private static void resting() {
        Kit.Maker world = Kit.of(FOUR + ";goal 0 9;goal 1 9").law("fall 99;fall 1").then(x -> x.days(4));
        Kit.leaves(world, "person -1", Kit.INDEX, x -> x.rest(-1));
        Kit.leaves(world, "person 4", Kit.INDEX, x -> x.rest(4));
        LaceBonds x = world.make();
        Kit.is("falls", x.count(8), 8);
        Kit.is("tired", x.person(0, 4), 4);
        Kit.is("rest", x.rest(0), 4);
        Kit.is("rested", x.person(0, 4), 0);
        Kit.is("the other not", x.person(1, 4), 4);
        Kit.is("rest again", x.rest(0), 0);
        Kit.is("acts", x.count(10), 3);
    }

    private static void row(LaceBonds x, int... due) {
        for (int what = 0; what < 4; what++) {
            Kit.is("the latest row what " + what, x.log(0, what), due[what]);
        }
    }
}
