/** Promises 5, 6, 10 and 11: law, fault, walks, grows. */
public final class LawTest {
    private static final String FOUR = "person 100 pace 9 at 3;person 100 pace 9 at 4;person 100 pace 9 at 5;person 100 pace 5 at 6"
            + ";pledge 2 to 0 for 10 knot 3 till 50;pledge 4 to 0 for 10 knot 0 till 50;pledge 5 to 1 for 10 knot 9 till 50"
            + ";mud 4 7;mud 5 2;goal 3 10;day 12";

    public static void main(String[] args) {
        withoutText();
        lines();
        conditions();
        sums();
        depth();
        wrong();
        replaced();
        refusals();
        Kit.close("LawTest");
    }

    private static void withoutText() {
        LaceBonds x = Kit.land(FOUR + ";person 5 pace 1 at 1;pledge 8 to 0 for 1 knot 0 till 1");
        int[] walks = {9, 7, 5, 5, 0};
        int[] falls = {0, 10, 20, 0, 10};
        for (int p = 0; p < 5; p++) {
            Kit.is("walks " + p, x.walks(p, 0), walks[p]);
            Kit.is("falls " + p, x.walks(p, 1), falls[p]);
        }
        Kit.is("knot 3", x.grows(2), 3);
        Kit.is("knot 0", x.grows(4), 0);
        Kit.is("knot 9", x.grows(5), 9);
        Kit.is("in its shoe", x.grows(0), 0);
        Kit.is("no law", x.count(2), -1);
    }

    private static void lines() {
        LaceBonds x = Kit.land(FOUR);
        Kit.reads(x, false, "slow 2;grow 5;fall 30", 3);
        is(x, "slow 2;grow 5;fall 30", new int[] {7, 7, 7, 3}, new int[] {30, 30, 30, 30});
        Kit.is("grows by knot and law", x.grows(2), 8);
        Kit.is("in its shoe it does not", x.grows(0), 0);
        Kit.reads(x, false, "fall 60;slow 3;fall 41;slow 4;grow 99;grow 99", 6);
        is(x, "all lines together", new int[] {2, 2, 2, 0}, new int[] {100, 100, 100, 100});
        Kit.is("grow lines together", x.grows(5), 207);
        Kit.reads(x, false, "", 0);
        is(x, "no lines", new int[] {9, 9, 9, 5}, new int[] {0, 0, 0, 0});
        Kit.is("an empty law is one", x.count(2), 0);
        Kit.reads(x, false, "  ", 0);
        Kit.reads(x, false, "slow 1;".repeat(11) + "slow 0", 12);
        is(x, "0 at least", new int[] {0, 0, 0, 0}, new int[] {0, 0, 0, 0});
    }

    /** Each condition with the people for whom it holds, as bits. */
    private static void conditions() {
        Kit.Maker world = Kit.of(FOUR);
        holds(world, "even", 13);
        holds(world, "there", 7);
        holds(world, "not even", 2);
        holds(world, "not not even", 13);
        holds(world, "who < 2", 3);
        holds(world, "who > 1", 12);
        holds(world, "who < 0", 0);
        holds(world, "0 < 1", 15);
        holds(world, "1 < 1", 0);
        holds(world, "1 > 1", 0);
        holds(world, "slack > 0", 6);
        holds(world, "slack > 1", 4);
        holds(world, "held > 0", 3);
        holds(world, "held > 1", 1);
        holds(world, "place < 5", 3);
        holds(world, "mud > 0", 6);
        holds(world, "mud > 6", 2);
        holds(world, "day > 11", 15);
        holds(world, "day < 12", 0);
        holds(world, "tired > 0", 0);
        holds(world, "tired < 1", 15);
        holds(world, "there and even", 5);
        holds(world, "there or even", 15);
        holds(world, "who < 1 or there and slack > 1", 5);
        holds(world, "slack > 1 and there or who < 1", 5);
        holds(world, "(who < 1 or there) and slack > 1", 4);
        holds(world, "not there or even", 13);
        holds(world, "not (there or even)", 0);
        holds(world, "not (there and even)", 10);
        holds(world, "not there and even", 8);
        holds(world, "who<1or who>2", 9);
        holds(world, "((even))", 13);
        holds(world, "even and even and who < 3 and who > 0", 4);
        holds(world, "who < 1 or who > 1 and who < 3 or who > 2", 13);
    }

    private static void sums() {
        Kit.Maker world = Kit.of(FOUR);
        holds(world, "who + 1 > 2", 12);
        holds(world, "who + slack + held > 3", 4);
        holds(world, "place + mud < 7", 9);
        holds(world, "3 < 1 + 1 + who", 12);
        holds(world, "who+who > who+1", 12);
        holds(world, "999 + 999 > 999 + 998", 15);
        holds(world, "day + 0 < 999", 15);
        holds(world, "1 + 2 < who", 0);
        holds(world.then(x -> x.goal(3, 6)), "there", 15);
        // who falls is tired
        Kit.Maker tired = world.then(x -> x.goal(3, 6)).law("fall 99;fall 1").then(x -> x.goal(1, 0)).then(x -> x.days(2));
        holds(tired, "tired > 1", 2);
        holds(tired, "tired + who > 2", 10);
        holds(tired, "day > 13", 15);
        holds(tired, "day > 14", 0);
        // LOST ones are held and slack
        Kit.Maker lost = tired.law("grow 99").then(x -> x.days(60));
        Kit.is("three are lost", lost.make().rail(), 52);
        holds(lost, "held > 1", 1);
        holds(lost, "slack > 0", 6);
        holds(lost, "day > 73 and day < 75", 15);
    }

    private static void depth() {
        Kit.Maker world = Kit.of(FOUR);
        holds(world, "not not not not not not even", 13);
        holds(world, "((((((even))))))", 13);
        holds(world, "not(not(not(even)))", 2);
        holds(world, "not (not (even) or not (not (even and there)))", 8);
        Kit.wrongAt(world, false, "slow 5 if not not not not not not not even", 34);
        Kit.wrongAt(world, false, "slow 5 if (((((((even)))))))", 16);
        Kit.wrongAt(world, false, "slow 5 if not(not(not(not even", 22);
        Kit.wrongAt(world, false, "slow 5 if even and not(not(not((", 31);
        Kit.reads(world.make(), false, "slow 5 if (even) and (even) and (even) and (even) and (even) and (even) and (even) and not even", 1);
        Kit.reads(world.make(), false, "slow 5 if not even and not even and not even and not even and not even and not even and not even", 1);
        // As much as can be open at once: at each depth an or, an and, and within the deepest a sum.
        String deep = "1<0 or 0<1 and 1<who+1";
        for (int i = 0; i < 6; i++) {
            deep = "1<0 or 0<1 and(" + deep + ")";
        }
        holds(world, deep, 14);
    }

    private static void wrong() {
        Kit.Maker world = Kit.of(FOUR).law("slow 4 if even");
        Kit.wrongAt(world, false, "slow", 4);
        Kit.wrongAt(world, false, "slow 100", 5);
        Kit.wrongAt(world, false, "slow 0099", 5);
        Kit.wrongAt(world, false, "slow even", 5);
        Kit.wrongAt(world, false, "slower 1", 0);
        Kit.wrongAt(world, false, "tax", 0);
        Kit.wrongAt(world, false, "flow 1", 0);
        Kit.wrongAt(world, false, "sloe 1", 0);
        Kit.wrongAt(world, false, "slow 1 when even", 7);
        Kit.wrongAt(world, false, "slow 1 2", 7);
        Kit.wrongAt(world, false, "grow 5 if", 9);
        Kit.wrongAt(world, false, "grow 5 if  ", 11);
        Kit.wrongAt(world, false, "grow 5 ifeven", 7);
        Kit.wrongAt(world, false, "grow 5 if who", 13);
        Kit.wrongAt(world, false, "grow 5 if who <", 15);
        Kit.wrongAt(world, false, "grow 5 if who = 1", 14);
        Kit.wrongAt(world, false, "grow 5 if who and", 14);
        Kit.wrongAt(world, false, "grow 5 if who +", 15);
        Kit.wrongAt(world, false, "grow 5 if who + even", 16);
        Kit.wrongAt(world, false, "grow 5 if who < even", 16);
        Kit.wrongAt(world, false, "grow 5 if who < 1 < 2", 18);
        Kit.wrongAt(world, false, "grow 5 if who < 1000", 16);
        Kit.wrongAt(world, false, "grow 5 if purse < 1", 10);
        Kit.wrongAt(world, false, "grow 5 if even even", 15);
        Kit.wrongAt(world, false, "grow 5 if even < 1", 15);
        Kit.wrongAt(world, false, "grow 5 if even or", 17);
        Kit.wrongAt(world, false, "grow 5 if even or or", 18);
        Kit.wrongAt(world, false, "grow 5 if even and", 18);
        Kit.wrongAt(world, false, "grow 5 if not", 13);
        Kit.wrongAt(world, false, "grow 5 if not and", 14);
        Kit.wrongAt(world, false, "fall 5 if (even", 15);
        Kit.wrongAt(world, false, "fall 5 if (even;", 15);
        Kit.wrongAt(world, false, "fall 5 if even)", 14);
        Kit.wrongAt(world, false, "fall 5 if ()", 11);
        Kit.wrongAt(world, false, "fall 5 if (who) < 1", 14);
        Kit.wrongAt(world, false, "fall 5;", 7);
        Kit.wrongAt(world, false, ";fall 5", 0);
        Kit.wrongAt(world, false, "fall 5;;", 7);
        Kit.wrongAt(world, false, "fall 5;day 3", 7);
        Kit.wrongAt(world, false, "slow 1;".repeat(12) + "slow 1", 84);
        Kit.wrongAt(world, false, "slow 1;".repeat(12), 84);
        LaceBonds x = world.make();
        for (String text : new String[] {"slow 9;fall 9;fall", "slow 9 if who < 2;slow 100", "fall 9 if not (there or slack"}) {
            Kit.text(x, text);
            Kit.refuses("one behind another: " + text, Kit.ARGUMENT, () -> x.law());
        }
        is(x, "the law before stays", new int[] {5, 9, 5, 1}, new int[] {0, 0, 0, 0});
    }

    private static void replaced() {
        LaceBonds x = Kit.lawOf(Kit.land(FOUR), "slow 4 if even;fall 7");
        x.goal(0, 1);
        Kit.reads(x, false, "grow 1 if slack > 1", 1);
        is(x, "the law before is gone", new int[] {9, 9, 9, 5}, new int[] {0, 0, 0, 0});
        Kit.is("asked of the owner", x.grows(4), 1);
        Kit.is("not of the holder", x.grows(2), 3);
        Kit.is("a text: nothing can be undone", x.count(10), 0);
        Kit.is("lines", x.count(2), 1);
        for (int i = 0; i < 40; i++) {
            Kit.lawOf(x, "slow 2 if who + who + who + who + who > 4 + 4 and who + who + who + who + who < 4 + 4 + 4");
        }
        is(x, "the fortieth law", new int[] {9, 9, 7, 5}, new int[] {0, 0, 0, 0});
    }

    private static void refusals() {
        Kit.Maker world = Kit.of(FOUR);
        Kit.leaves(world, "walks -1", Kit.INDEX, x -> x.walks(-1, 0));
        Kit.leaves(world, "walks 4", Kit.INDEX, x -> x.walks(4, 5));
        Kit.leaves(world, "walks what 2", Kit.ELEMENT, x -> x.walks(3, 2));
        Kit.leaves(world, "walks what -1", Kit.ELEMENT, x -> x.walks(0, -1));
        Kit.leaves(world, "grows -1", Kit.INDEX, x -> x.grows(-1));
        Kit.leaves(world, "grows 8", Kit.INDEX, x -> x.grows(8));
    }

    private static void holds(Kit.Maker world, String condition, int due) {
        LaceBonds x = world.law("slow 1 if " + condition + ";fall 7 if " + condition).make();
        int walking = 0;
        int falling = 0;
        for (int p = 0; p < x.count(0); p++) {
            walking |= x.walks(p, 0) < x.person(p, 1) ? 1 << p : 0;
            falling |= x.walks(p, 1) == 7 ? 1 << p : 0;
        }
        Kit.is("slow if " + condition, walking, due);
        Kit.is("fall if " + condition, falling, due);
    }

    private static void is(LaceBonds x, String what, int[] walks, int[] falls) {
        for (int p = 0; p < walks.length; p++) {
            Kit.is(what + ": walks " + p, x.walks(p, 0), walks[p]);
            Kit.is(what + ": falls " + p, x.walks(p, 1), falls[p]);
        }
    }
}
