/** Promises 36 to 40: race, pairs, lends, loose, rail. */
public final class RaceTest {
    public static void main(String[] args) {
        races();
        lenders();
        loosest();
        rails();
        refusals();
        Kit.close("RaceTest");
    }

    private static void races() {
        LaceBonds x = Kit.land("person 9 pace 5 at 0;person 9 pace 7 at 0;person 9 pace 5 at 3;person 9 pace 9 at 0;person 9 pace 5 at 0;person 9 pace 9 at 0");
        race(x, 2, 20, 0, 17, 32, 5, 8);
        x.lend(0, 2, 1, 0, 99);
        // 1 walks by 5 now
        race(x, 3, 22, 21, 19, 32, 7, 8);
        Kit.lawOf(x, "slow 9 if who > 2");
        race(x, 2, 4, 0, 1, 48, 40, 24);
        Kit.lawOf(x, "slow 99");
        race(x, 3, 62, 61, 59, 55, 47, 31);
        LaceBonds one = Kit.land("person 9 pace 5 at 0");
        race(one, 0, 0);
    }

    private static void lenders() {
        LaceBonds x = Kit.land("person 100 pace 5 at 0;person 20 pace 7 at 0;person 999 pace 5 at 3");
        Kit.is("1", x.lends(1), 7);
        Kit.is("20", x.lends(20), 7);
        Kit.is("21", x.lends(21), 5);
        Kit.is("999", x.lends(999), 4);
        Kit.text(x, "pledge 0 to 1 for 1 knot 0 till 9;pledge 1 to 1 for 1 knot 0 till 9;pledge 2 to 0 for 999 knot 0 till 1;pledge 3 to 0 for 1 knot 0 till 9");
        x.land();
        Kit.is("only 2 has laces, which it cannot lend on", x.lends(1), 3);
        x.lend(0, 4, 1, 0, 9);
        Kit.is("one is enough", x.lends(1), 3);
        x.lend(0, 5, 1, 0, 9);
        Kit.is("no lace is free", x.lends(1), 0);
        x.days(2);
        Kit.is("lost is not free", x.lace(2, 0), 2);
        Kit.is("no lace is free still", x.lends(1), 0);
        x.pay(1);
        Kit.is("one of 0 is free", x.lends(1), 6);
        LaceBonds one = Kit.land("person 9 pace 5 at 0");
        Kit.is("nobody else", one.lends(1), 0);
    }

    private static void loosest() {
        LaceBonds x = Kit.land("person 5 pace 5 at 0;person 20 pace 7 at 0;pledge 0 to 1 for 30 knot 0 till 9;pledge 1 to 1 for 20 knot 9 till 9;pledge 3 to 0 for 50 knot 0 till 1");
        Kit.is("the lesser", x.loose(0), 20);
        LaceBonds y = Kit.land("person 5 pace 5 at 0;person 20 pace 7 at 0;person 1 pace 1 at 1;pledge 1 to 1 for 30 knot 0 till 9;pledge 2 to 0 for 9 knot 0 till 9;pledge 4 to 0 for 2 knot 0 till 9");
        Kit.is("the own right one", y.loose(0), 30);
        Kit.is("the own left one", y.loose(1), 9);
        Kit.is("the only one, whatever the purse", x.loose(1), 50);
        x.days(2);
        Kit.is("by then the other", x.loose(0), 30);
        Kit.is("lost: none", x.loose(1), -1);
        LaceBonds one = Kit.land("person 9 pace 5 at 0");
        Kit.is("none", one.loose(0), -1);
    }

    private static void rails() {
        LaceBonds x = Kit.land("person 5 pace 5 at 0;person 20 pace 7 at 0;pledge 0 to 1 for 30 knot 0 till 9;pledge 1 to 1 for 20 knot 9 till 4;pledge 3 to 0 for 50 knot 0 till 1");
        Kit.is("none", x.rail(), 0);
        x.days(1);
        Kit.is("none on day 0", x.rail(), 0);
        x.days(1);
        Kit.is("one", x.rail(), 8);
        x.days(30);
        Kit.is("all", x.rail(), 11);
        x.days(60);
        Kit.is("for good", x.rail(), 11);
    }

    private static void refusals() {
        Kit.Maker world = Kit.of("person 5 pace 5 at 0;person 20 pace 7 at 0");
        for (int p : new int[] {-1, 2, Integer.MIN_VALUE, Integer.MAX_VALUE}) {
            Kit.leaves(world, "race " + p, Kit.INDEX, x -> x.race(p));
            Kit.leaves(world, "loose " + p, Kit.INDEX, x -> x.loose(p));
        }
        for (int amount : new int[] {0, -1, 1000, Integer.MAX_VALUE}) {
            Kit.leaves(world, "lends " + amount, Kit.ARGUMENT, x -> x.lends(amount));
        }
    }

    private static void race(LaceBonds x, int pairs, int... due) {
        Kit.is("pairs", x.pairs(), pairs);
        for (int p = 0; p < due.length; p++) {
            Kit.is("race " + p, x.race(p), due[p]);
        }
    }
}
