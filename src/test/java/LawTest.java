/** Promises 5, 6, 10 and 11: law, fault, walks, grows. */
public final class LawTest {
    private static final String FOUR = "person 100 pace 9 at 3;person 100 pace 9 at 4;person 100 pace 9 at 5;person 100 pace 5 at 6"
            + ";pledge 2 to 0 for 10 knot 3 till 50;pledge 4 to 0 for 10 knot 0 till 50;pledge 5 to 1 for 10 knot 9 till 50"
            + ";mud 4 7;mud 5 2;goal 3 10;day 12";

    public static void main(String[] args) {
        withoutText();
        lines();
        conditions();
        sums();
        depth();
        wrong();
        replaced();
        refusals();
        Kit.close("LawTest");
    }

    private static void withoutText() {
        LaceBonds x = Kit.land(FOUR + ";person 5 pace 1 at 1;pledge 8 to 0 for 1 knot 0 till 1");
        int[] walks = {9, 7, 5, 5, 0};
        int[] falls = {0, 10, 20, 0, 10};
        for (int p = 0; p < 5; p++) {
            Kit.is("walks " + p, x.walks(p, 0), walks[p]);
            Kit.is("falls " + p, x.walks(p, 1), falls[p]);
        }
        Kit.is("knot 3", x.grows(2), 3);
        Kit.is("knot 0", x.grows(4), 0);
        Kit.is("knot 9", x.grows(5), 9);
        Kit.is("in its shoe", x.grows(0), 0);
        Kit.is("no law", x.count(2), -1);
    }

    private static void lines() {
        LaceBonds x = Kit.land(FOUR);
        Kit.reads(x, false, "slow 2;grow 5;fall 30", 3);
        is(x, "slow 2;grow 5;fall 30", new int[] {7, 7, 7, 3}, new int[] {30, 30, 30, 30});
        Kit.is("grows by knot and law", x.grows(2), 8);
        Kit.is("in its shoe it does not", x.grows(0), 0);
        Kit.reads(x, false, "fall 60;slow 3;fall 41;slow 4;grow 99;grow 99", 6);
        is(x, "all lines together", new int[] {2, 2, 2, 0}, new int[] {100, 100, 100, 100});
        Kit.is("grow lines together", x.grows(5), 207);
        Kit.reads(x, false, "", 0);
        is(x, "no lines", new int[] {9, 9, 9, 5}, new int[] {0, 0, 0, 0});
        Kit.is("an empty law is one", x.count(2), 0);
        Kit.reads(x, false, "  ", 0);
        Kit.reads(x, false, "slow 1;".repeat(11) + "slow 0", 12);
        is(x, "0 at least", new int[] {0, 0, 0, 0}, new int[] {0, 0, 0, 0});
    }

    /** Each condition with the people for whom it holds, as bits. */
    private static void conditions() {
        LaceBonds x = Kit.land(FOUR);
        holds(x, "even", 13);
        holds(x, "there", 7);
        holds(x, "not even", 2);
        holds(x, "not not even", 13);
        holds(x, "who < 2", 3);
        holds(x, "who > 1", 12);
        holds(x, "who < 0", 0);
        holds(x, "0 < 1", 15);
        holds(x, "1 < 1", 0);
        holds(x, "1 > 1", 0);
        holds(x, "slack > 0", 6);
        holds(x, "slack > 1", 4);
        holds(x, "held > 0", 3);
        holds(x, "held > 1", 1);
        holds(x, "place < 5", 3);
        holds(x, "mud > 0", 6);
        holds(x, "mud > 6", 2);
        holds(x, "day > 11", 15);
        holds(x, "day < 12", 0);
        holds(x, "tired > 0", 0);
        holds(x, "tired < 1", 15);
        holds(x, "there and even", 5);
        holds(x, "there or even", 15);
        holds(x, "who < 1 or there and slack > 1", 5);
        holds(x, "slack > 1 and there or who < 1", 5);
        holds(x, "(who < 1 or there) and slack > 1", 4);
        holds(x, "not there or even", 13);
        holds(x, "not (there or even)", 0);
        holds(x, "not (there and even)", 10);
        holds(x, "not there and even", 8);
        holds(x, "who<1or who>2", 9);
        holds(x, "((even))", 13);
        holds(x, "even and even and who < 3 and who > 0", 4);
        holds(x, "who < 1 or who > 1 and who < 3 or who > 2", 13);
    }

    private static void sums() {
        LaceBonds x = Kit.land(FOUR);
        holds(x, "who + 1 > 2", 12);
        holds(x, "who + slack + held > 3", 4);
        holds(x, "place + mud < 7", 9);
        holds(x, "3 < 1 + 1 + who", 12);
        holds(x, "who+who > who+1", 12);
        holds(x, "999 + 999 > 999 + 998", 15);
        holds(x, "day + 0 < 999", 15);
        holds(x, "1 + 2 < who", 0);
        x.goal(3, 6);
        holds(x, "there", 15);
        // who falls is tired
        Kit.lawOf(x, "fall 99;fall 1");
        x.goal(1, 0);
        x.days(2);
        holds(x, "tired > 1", 2);
        holds(x, "tired + who > 2", 10);
        holds(x, "day > 13", 15);
        holds(x, "day > 14", 0);
        // LOST ones are held and slack
        Kit.lawOf(x, "grow 99");
        x.days(60);
        Kit.is("three are lost", x.rail(), 52);
        holds(x, "held > 1", 1);
        holds(x, "slack > 0", 6);
        holds(x, "day > 73 and day < 75", 15);
    }

    private static void depth() {
        LaceBonds x = Kit.land(FOUR);
        holds(x, "not not not not not not even", 13);
        holds(x, "((((((even))))))", 13);
        holds(x, "not(not(not(even)))", 2);
        holds(x, "not (not (even) or not (not (even and there)))", 8);
        Kit.wrongAt(x, false, "slow 5 if not not not not not not not even", 34);
        Kit.wrongAt(x, false, "slow 5 if (((((((even)))))))", 16);
        Kit.wrongAt(x, false, "slow 5 if not(not(not(not even", 22);
        Kit.wrongAt(x, false, "slow 5 if even and not(not(not((", 31);
        Kit.reads(x, false, "slow 5 if (even) and (even) and (even) and (even) and (even) and (even) and (even) and not even", 1);
        Kit.reads(x, false, "slow 5 if not even and not even and not even and not even and not even and not even and not even", 1);
        // As much as can be open at once: at each depth an or, an and, and within the deepest a sum.
        String deep = "1<0 or 0<1 and 1<who+1";
        for (int i = 0; i < 6; i++) {
            deep = "1<0 or 0<1 and(" + deep + ")";
        }
        holds(x, deep, 14);
    }

    private static void wrong() {
        LaceBonds x = Kit.lawOf(Kit.land(FOUR), "slow 4 if even");
        Kit.wrongAt(x, false, "slow", 4);
        Kit.wrongAt(x, false, "slow 100", 5);
        Kit.wrongAt(x, false, "slow 0099", 5);
        Kit.wrongAt(x, false, "slow even", 5);
        Kit.wrongAt(x, false, "slower 1", 0);
        Kit.wrongAt(x, false, "tax", 0);
        Kit.wrongAt(x, false, "flow 1", 0);
        Kit.wrongAt(x, false, "sloe 1", 0);
        Kit.wrongAt(x, false, "slow 1 when even", 7);
        Kit.wrongAt(x, false, "slow 1 2", 7);
        Kit.wrongAt(x, false, "grow 5 if", 9);
        Kit.wrongAt(x, false, "grow 5 if  ", 11);
        Kit.wrongAt(x, false, "grow 5 ifeven", 7);
        Kit.wrongAt(x, false, "grow 5 if who", 13);
        Kit.wrongAt(x, false, "grow 5 if who <", 15);
        Kit.wrongAt(x, false, "grow 5 if who = 1", 14);
        Kit.wrongAt(x, false, "grow 5 if who and", 14);
        Kit.wrongAt(x, false, "grow 5 if who +", 15);
        Kit.wrongAt(x, false, "grow 5 if who + even", 16);
        Kit.wrongAt(x, false, "grow 5 if who < even", 16);
        Kit.wrongAt(x, false, "grow 5 if who < 1 < 2", 18);
        Kit.wrongAt(x, false, "grow 5 if who < 1000", 16);
        Kit.wrongAt(x, false, "grow 5 if purse < 1", 10);
        Kit.wrongAt(x, false, "grow 5 if even even", 15);
        Kit.wrongAt(x, false, "grow 5 if even < 1", 15);
        Kit.wrongAt(x, false, "grow 5 if even or", 17);
        Kit.wrongAt(x, false, "grow 5 if even or or", 18);
        Kit.wrongAt(x, false, "grow 5 if even and", 18);
        Kit.wrongAt(x, false, "grow 5 if not", 13);
        Kit.wrongAt(x, false, "grow 5 if not and", 14);
        Kit.wrongAt(x, false, "fall 5 if (even", 15);
        Kit.wrongAt(x, false, "fall 5 if (even;", 15);
        Kit.wrongAt(x, false, "fall 5 if even)", 14);
        Kit.wrongAt(x, false, "fall 5 if ()", 11);
        Kit.wrongAt(x, false, "fall 5 if (who) < 1", 14);
        Kit.wrongAt(x, false, "fall 5;", 7);
        Kit.wrongAt(x, false, ";fall 5", 0);
        Kit.wrongAt(x, false, "fall 5;;", 7);
        Kit.wrongAt(x, false, "fall 5;day 3", 7);
        Kit.wrongAt(x, false, "slow 1;".repeat(12) + "slow 1", 84);
        Kit.wrongAt(x, false, "slow 1;".repeat(12), 84);
        is(x, "the law before stays", new int[] {5, 9, 5, 1}, new int[] {0, 0, 0, 0});
    }

    private static void replaced() {
        LaceBonds x = Kit.lawOf(Kit.land(FOUR), "slow 4 if even;fall 7");
        x.goal(0, 1);
        Kit.reads(x, false, "grow 1 if slack > 1", 1);
        is(x, "the law before is gone", new int[] {9, 9, 9, 5}, new int[] {0, 0, 0, 0});
        Kit.is("asked of the owner", x.grows(4), 1);
        Kit.is("not of the holder", x.grows(2), 3);
        Kit.is("a text: nothing can be undone", x.count(10), 0);
        Kit.is("lines", x.count(2), 1);
        for (int i = 0; i < 100; i++) {
            Kit.lawOf(x, "slow 2 if who + who + who + who + who > 4 + 4 and who + who + who + who + who < 4 + 4 + 4");
        }
        is(x, "the hundredth law", new int[] {9, 9, 7, 5}, new int[] {0, 0, 0, 0});
    }

    private static void refusals() {
        LaceBonds x = Kit.land(FOUR);
        Kit.leaves(x, "walks -1", Kit.INDEX, () -> x.walks(-1, 0));
        Kit.leaves(x, "walks 4", Kit.INDEX, () -> x.walks(4, 5));
        Kit.leaves(x, "walks what 2", Kit.ELEMENT, () -> x.walks(3, 2));
        Kit.leaves(x, "walks what -1", Kit.ELEMENT, () -> x.walks(0, -1));
        Kit.leaves(x, "grows -1", Kit.INDEX, () -> x.grows(-1));
        Kit.leaves(x, "grows 8", Kit.INDEX, () -> x.grows(8));
    }

    private static void holds(LaceBonds x, String condition, int due) {
        Kit.lawOf(x, "slow 1 if " + condition + ";fall 7 if " + condition);
        int walking = 0;
        int falling = 0;
        for (int p = 0; p < x.count(0); p++) {
            walking |= x.walks(p, 0) < x.person(p, 1) ? 1 << p : 0;
            falling |= x.walks(p, 1) == 7 ? 1 << p : 0;
        }
        Kit.is("slow if " + condition, walking, due);
        Kit.is("fall if " + condition, falling, due);
    }

    private static void is(LaceBonds x, String what, int[] walks, int[] falls) {
        for (int p = 0; p < walks.length; p++) {
            Kit.is(what + ": walks " + p, x.walks(p, 0), walks[p]);
            Kit.is(what + ": falls " + p, x.walks(p, 1), falls[p]);
        }
    }
}
