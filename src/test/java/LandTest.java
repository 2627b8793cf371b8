/** Promises 4 and 6: land, fault; and what is read of a text (7 to 9, 49 show it). */
public final class LandTest {
    private static final String TWO = "person 10 pace 1 at 0;person 20 pace 9 at 19";

    public static void main(String[] args) {
        told();
        tolerant();
        manyTexts();
        wrongPeople();
        wrongPledges();
        wrongOthers();
        tooMany();
        nothingStays();
        Kit.close("LandTest");
    }

    private static void told() {
        LaceBonds x = Kit.land(TWO + ";person 999 pace 5 at 7;pledge 0 to 1 for 999 knot 9 till 999 by 2;pledge 3 to 2 for 1 knot 0 till 1"
                + ";mud 0 9;mud 19 1;goal 2 0;fine 99;day 999");
        Kit.is("people", x.count(0), 3);
        Kit.is("texts", x.count(1), 1);
        Kit.is("purse", x.person(0, 0), 10);
        Kit.is("pace", x.person(1, 1), 9);
        Kit.is("place", x.person(1, 2), 19);
        Kit.is("goal is the own place", x.person(1, 3), 19);
        Kit.is("goal told", x.person(2, 3), 0);
        Kit.is("place with a goal told", x.person(2, 2), 7);
        int[] first = {1, 1, 999, 9, 999, 2};
        int[] second = {1, 2, 1, 0, 1, -1};
        for (int what = 0; what < 6; what++) {
            Kit.is("lace 0 what " + what, x.lace(0, what), first[what]);
            Kit.is("lace 3 what " + what, x.lace(3, what), second[what]);
        }
        Kit.is("mud 0", x.mud(0), 9);
        Kit.is("mud 19", x.mud(19), 1);
        Kit.is("fine", x.count(4), 99);
        Kit.is("day", x.count(3), 999);
        Kit.is("purses as told", x.count(7), 1029);
        Kit.is("a text is no act", x.count(10), 0);
        Kit.is("a text is not logged", x.count(9), 0);
    }

    private static void tolerant() {
        LaceBonds x = new LaceBonds();
        Kit.reads(x, true, "", 1);
        Kit.reads(x, true, "    ", 2);
        Kit.reads(x, true, "person1pace2at3", 3);
        Kit.reads(x, true, "  person  001 pace 009  at  019  ;  day 000 ; fine 0;mud 00 00 ", 4);
        Kit.reads(x, true, "goal 0 3;pledge 0to1for5knot1till2", 5);
        Kit.is("two people", x.count(0), 2);
        Kit.is("the last line counts", x.count(4), 0);
        Kit.is("pledged", x.lace(0, 2), 5);
        Kit.reads(x, true, "fine 1;fine 2;day 5;day 3;goal 0 4;goal 0 5", 6);
        Kit.is("the latest fine", x.count(4), 2);
        Kit.is("the latest day", x.count(3), 3);
        Kit.is("the latest goal", x.person(0, 3), 5);
    }

    private static void manyTexts() {
        LaceBonds x = new LaceBonds();
        for (int n = 1; n <= 12; n++) {
            Kit.reads(x, true, n == 7 ? "person 1 pace 1 at 1" : "", n);
        }
        Kit.text(x, "days");
        Kit.refuses("a wrong 13th text", Kit.ARGUMENT, () -> x.land());
        Kit.is("it was read", x.fault(), 0);
        String before = Kit.all(x);
        Kit.text(x, "fine 9");
        Kit.refuses("a 13th text", Kit.UNSUPPORTED, () -> x.land());
        Kit.is("a refused text was read", x.fault(), -1);
        Kit.is("its tape is used up", x.end(1), false);
        Kit.is("nothing changed", Kit.all(x), before);
        Kit.is("the first person came by the 7th", x.count(0), 1);
        Kit.reads(x, false, "slow 1", 1);
    }

    private static void wrongPeople() {
        Kit.Maker world = Kit.of("");
        Kit.wrongAt(world, true, "person", 6);
        Kit.wrongAt(world, true, "person ", 7);
        Kit.wrongAt(world, true, "persona 1", 0);
        Kit.wrongAt(world, true, "Person 1", 0);
        Kit.wrongAt(world, true, "person 1000 pace 1 at 1", 7);
        Kit.wrongAt(world, true, "person 0001 pace 1 at 1", 7);
        Kit.wrongAt(world, true, "person -1 pace 1 at 1", 7);
        Kit.wrongAt(world, true, "person 1 1 pace", 9);
        Kit.wrongAt(world, true, "person 1 pac 1", 9);
        Kit.wrongAt(world, true, "person 1 pace 0", 14);
        Kit.wrongAt(world, true, "person 1 pace 10", 14);
        Kit.wrongAt(world, true, "person 1 pace 1 on", 16);
        Kit.wrongAt(world, true, "person 1 pace 1 at 20", 19);
        Kit.wrongAt(world, true, "person 1 pace 1 at", 18);
        Kit.wrongAt(world, true, "person 1 pace 1 at 1 2", 21);
        Kit.wrongAt(world, true, "person 1 pace 1 at 1 person", 21);
        Kit.wrongAt(world, true, "person 1 pace 1 at 1\t", 20);
    }

    private static void wrongPledges() {
        Kit.Maker world = Kit.of(TWO, "person 1 pace 1 at 1", "pledge 1 to 2 for 5 knot 1 till 5");
        Kit.wrongAt(world, true, "pledge 6 to 1", 7);
        Kit.wrongAt(world, true, "pledge 1 to 1", 7);
        Kit.wrongAt(world, true, "pledge x", 7);
        Kit.wrongAt(world, true, "pledge 0 for", 9);
        Kit.wrongAt(world, true, "pledge 0 to 0 for", 12);
        Kit.wrongAt(world, true, "pledge 0 to 3 for", 12);
        Kit.wrongAt(world, true, "pledge 0 to 1 to", 14);
        Kit.wrongAt(world, true, "pledge 0 to 1 for 0", 18);
        Kit.wrongAt(world, true, "pledge 0 to 1 for 1000", 18);
        Kit.wrongAt(world, true, "pledge 0 to 1 for 5 till", 20);
        Kit.wrongAt(world, true, "pledge 0 to 1 for 5 knot 10", 25);
        Kit.wrongAt(world, true, "pledge 0 to 1 for 5 knot 1 by", 27);
        Kit.wrongAt(world, true, "pledge 0 to 1 for 5 knot 1 till 0", 32);
        Kit.wrongAt(world, true, "pledge 0 to 1 for 5 knot 1 till 1000", 32);
        Kit.wrongAt(world, true, "pledge 0 to 1 for 5 knot 1 till 5 by", 36);
        Kit.wrongAt(world, true, "pledge 0 to 1 for 5 knot 1 till 5 by 0", 37);
        Kit.wrongAt(world, true, "pledge 0 to 1 for 5 knot 1 till 5 by 1", 37);
        Kit.wrongAt(world, true, "pledge 0 to 1 for 5 knot 1 till 5 by 3", 37);
        Kit.wrongAt(world, true, "pledge 0 to 1 for 5 knot 1 till 5 by 2 by", 39);
        Kit.wrongAt(world, true, "pledge 0 to 1 for 5 knot 1 till 5;pledge 0 to 1", 41);
        Kit.wrongAt(world, true, "pledge 5 to 0 for 5 knot 1 till 5 by 2", 37);
        Kit.Maker later = Kit.of(TWO, "person 1 pace 1 at 1", "pledge 1 to 2 for 5 knot 1 till 5", "pledge 5 to 0 for 5 knot 1 till 5 by 1").then(x -> x.days(60));
        Kit.wrongAt(later, true, "pledge 1 to 0", 7);
        LaceBonds x = later.make();
        Kit.is("lace 1 is lost", x.lace(1, 0), 2);
        Kit.is("lace 5 was paid", x.lace(5, 0), 0);
        Kit.reads(x, true, "pledge 5 to 1 for 5 knot 1 till 5", 5);
        Kit.reads(x, true, "person 1 pace 1 at 1;pledge 7 to 0 for 1 knot 0 till 1 by 1", 6);
    }

    private static void wrongOthers() {
        Kit.Maker world = Kit.of(TWO);
        Kit.wrongAt(world, true, "mud 20 1", 4);
        Kit.wrongAt(world, true, "mud 3", 5);
        Kit.wrongAt(world, true, "mud 3 10", 6);
        Kit.wrongAt(world, true, "goal 2 1", 5);
        Kit.wrongAt(world, true, "goal 1 20", 7);
        Kit.wrongAt(world, true, "goal 1", 6);
        Kit.wrongAt(world, true, "fine 100", 5);
        Kit.wrongAt(world, true, "day 1000", 4);
        Kit.wrongAt(world, true, "day", 3);
        Kit.wrongAt(world, true, ";", 0);
        Kit.wrongAt(world, true, "day 1;", 6);
        Kit.wrongAt(world, true, "day 1; ", 7);
        Kit.wrongAt(world, true, "day 1;;day 2", 6);
        Kit.wrongAt(world, true, "day 1 ,", 6);
        Kit.wrongAt(world, true, "day 1 day 2", 6);
        Kit.wrongAt(world, true, "slow 1", 0);
        Kit.wrongAt(world, true, "5", 0);
        Kit.wrongAt(world, true, "dayday 1", 0);
        Kit.wrongAt(world, true, "da y 1", 0);
        LaceBonds x = world.make();
        Kit.text(x, "da y 1");
        Kit.refuses("a wrong text", Kit.ARGUMENT, () -> x.land());
        Kit.is("the fault stays till the next text", x.fault(), 0);
        Kit.tape(x, 1, 2, 3);
        Kit.refuses("no rows", Kit.ARGUMENT, () -> x.carry(-1));
        Kit.is("what is no text leaves it", x.fault(), 0);
        Kit.reads(x, true, "", 2);
    }

    private static void tooMany() {
        Kit.wrongAt(LaceBonds::new, true, "day 1;".repeat(14) + "day 1", 84);
        Kit.wrongAt(LaceBonds::new, true, "day 1;".repeat(14) + "  ;", 86);
        Kit.wrongAt(LaceBonds::new, true, "day 1;".repeat(14), 84);
        LaceBonds x = new LaceBonds();
        Kit.reads(x, true, "day 1;".repeat(13) + "day 2", 1);
        Kit.is("14 lines stand", x.count(3), 2);
        String one = "person 1 pace 1 at 0;";
        Kit.wrongAt(LaceBonds::new, true, one.repeat(6) + "person 5", 126);
        Kit.reads(x, true, one.repeat(5) + "person 5 pace 5 at 5", 2);
        Kit.is("six people", x.count(0), 6);
        Kit.is("purse of the sixth", x.person(5, 0), 5);
        Kit.wrongAt(Kit.of(one.repeat(5) + "person 5 pace 5 at 5"), true, "day 7; person 1000", 7);
    }

    private static void nothingStays() {
        String wrong = "person 1 pace 1 at 1;pledge 0 to 1 for 5 knot 1 till 5;mud 1 1;goal 0 9;fine 9;day 9;x";
        LaceBonds x = Kit.land(TWO);
        x.goal(0, 5);
        x.image();
        Kit.wrongAt(Kit.of(TWO).then(y -> y.goal(0, 5)), true, wrong, 85);
        Kit.text(x, wrong);
        Kit.refuses("a wrong text", Kit.ARGUMENT, () -> x.land());
        Kit.is("acts are remembered behind it", x.count(10), 1);
        Kit.is("undo", x.undo(), true);
        x.goal(0, 6);
        Kit.reads(x, true, "", 2);
        Kit.is("none behind a right one", x.undo(), false);
        Kit.is("what was done stays", x.person(0, 3), 6);
    }
}
