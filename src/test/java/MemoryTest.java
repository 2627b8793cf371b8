/** Promises 46 to 48: undo, image, back. */
public final class MemoryTest {
    private static final String THREE = "person 100 pace 5 at 0;person 20 pace 6 at 10;person 990 pace 4 at 5;pledge 0 to 1 for 5 knot 1 till 2 by 2"
            + ";pledge 1 to 1 for 990 knot 1 till 3;goal 1 0;mud 3 4;fine 9";

    public static void main(String[] args) {
        eachAct();
        twelve();
        undoneAreGone();
        forgotten();
        imageOfNothing();
        imageOfAll();
        imageOfLaw();
        between();
        Kit.close("MemoryTest");
    }

    private static void eachAct() {
        Kit.Maker told = Kit.of(THREE).law("slow 1;fall 40;grow 2");
        Kit.is("none yet", told.make().undo(), false);
        undone(told, "lend", x -> x.lend(0, 2, 30, 4, 9));
        undone(told, "pay", x -> x.pay(0));
        undone(told, "surety", x -> x.surety(0, -1));
        Kit.Maker unsure = told.then(x -> x.surety(0, -1));
        undone(unsure, "give", x -> x.give(0, 2));
        undone(unsure, "goal", x -> x.goal(2, 19));
        undone(unsure, "goal as it is", x -> x.goal(2, 5));
        undone(unsure, "rest", x -> x.rest(1));
        undone(unsure, "days", x -> x.days(60));
        undone(unsure, "a day", x -> x.days(1));
        Kit.Maker tired = unsure.law("fall 99;fall 1").then(x -> x.days(2));
        undone(tired, "rest of the tired", x -> x.rest(1));
        LaceBonds x = tired.make();
        x.undo();
        Kit.is("nothing is left", x.undo(), false);
    }

    private static void undone(Kit.Maker world, String what, Kit.Deed act) {
        LaceBonds x = world.make();
        int acts = x.count(10);
        act.on(x);
        Kit.is(what + " is an act", x.count(10), acts + 1);
        Kit.is("undo " + what, x.undo(), true);
        Kit.is("as ahead of " + what, Kit.all(x), Kit.all(world.make()));
    }

    private static void twelve() {
        LaceBonds x = twenty(20);
        for (int i = 0; i < 20; i++) {
            Kit.is("acts", twenty(i).count(10), Math.min(i, 12));
        }
        for (int i = 19; i >= 8; i--) {
            Kit.is("undo " + i, x.undo(), true);
            Kit.is("left", x.count(10), i - 8);
            Kit.is("state " + i, body(undone(i)), body(twenty(i)));
        }
        Kit.is("the 13th is forgotten", x.undo(), false);
        Kit.is("nothing happens", body(x), body(twenty(8)));
    }

    /** So many of twenty acts. */
    private static LaceBonds twenty(int acts) {
        LaceBonds x = Kit.land(THREE);
        for (int i = 0; i < acts; i++) {
            if (i % 4 == 0) {
                x.days(1);
            } else {
                x.goal(0, i % 20);
            }
        }
        return x;
    }

    /** All twenty, and taken back to so many. */
    private static LaceBonds undone(int acts) {
        LaceBonds x = twenty(20);
        for (int i = 20; i > acts; i--) {
            x.undo();
        }
        return x;
    }

    private static void undoneAreGone() {
        LaceBonds x = Kit.land(THREE);
        x.goal(0, 1);
        x.goal(0, 2);
        x.undo();
        x.goal(0, 3);
        Kit.is("undone ones are gone", x.count(10), 2);
        x.undo();
        Kit.is("back to 1", x.person(0, 3), 1);
    }

    private static void forgotten() {
        LaceBonds x = Kit.land(THREE);
        x.goal(0, 1);
        Kit.text(x, "x");
        Kit.refuses("a wrong land", Kit.ARGUMENT, () -> x.land());
        Kit.text(x, "x");
        Kit.refuses("a wrong law", Kit.ARGUMENT, () -> x.law());
        Kit.is("a wrong text forgets none", x.count(10), 1);
        Kit.refuses("an act refused", Kit.INDEX, () -> x.goal(0, 20));
        Kit.is("it forgets none", x.count(10), 1);
        Kit.reads(x, true, "", 2);
        Kit.is("a text: none", x.count(10), 0);
        Kit.is("no undo", x.undo(), false);
        x.goal(0, 2);
        Kit.reads(x, false, "", 0);
        Kit.is("the law: none", x.undo(), false);
        x.goal(0, 3);
        x.image();
        Kit.is("an image: all", x.count(10), 1);
        x.back();
        Kit.is("going back: none", x.count(10), 0);
        Kit.is("no undo behind it", x.undo(), false);
        LaceBonds y = new LaceBonds();
        y.days(1);
        Kit.is("no image", y.back(), false);
        Kit.is("nothing happened", y.count(10), 1);
        for (int i = 1; i <= 12; i++) {
            Kit.reads(y, true, "", i);
        }
        y.days(1);
        Kit.text(y, "");
        Kit.refuses("a 13th", Kit.UNSUPPORTED, () -> y.land());
        Kit.is("a refused text forgets none", y.count(10), 1);
    }

    private static void imageOfNothing() {
        LaceBonds x = new LaceBonds();
        x.image();
        Kit.text(x, THREE);
        x.land();
        Kit.lawOf(x, "slow 1;fall 40");
        String told = body(x);
        Kit.is("back to the new land", x.back(), true);
        Kit.is("no people", x.count(0), 0);
        Kit.is("no texts", x.count(1), 0);
        Kit.is("no law", x.count(2), -1);
        Kit.is("mud", x.mud(3), 0);
        Kit.text(x, THREE);
        x.land();
        Kit.lawOf(x, "slow 1;fall 40");
        Kit.is("told again", body(x), told);
    }

    private static void imageOfAll() {
        LaceBonds x = Kit.lawOf(Kit.land(THREE), "slow 1;fall 40");
        x.seed(5);
        x.lend(2, 3, 9, 1, 50);
        x.days(3);
        x.image();
        String kept = body(x);
        x.days(30);
        Kit.lawOf(x, "grow 9");
        x.seed(6);
        Kit.text(x, "person 1 pace 1 at 1");
        x.land();
        Kit.text(x, "left");
        Kit.refuses("a wrong text", Kit.ARGUMENT, () -> x.law());
        x.feed(0, 0, 0, 0, 0);
        Kit.is("back", x.back(), true);
        Kit.is("all as it was", body(x), kept);
        Kit.is("but the tape", x.end(20), true);
        Kit.is("and fault", x.fault(), 0);
        Kit.is("the law as it was", x.walks(2, 0), 3);
    }

    private static void imageOfLaw() {
        LaceBonds x = Kit.lawOf(Kit.land(THREE), "slow 1 if who > 0;slow 2 if who < 1;fall 3 if who > 1");
        x.image();
        Kit.lawOf(x, "slow 1 if who + 1 + 1 + 1 > 9;slow 2 if who < 1 and who < 2;fall 3");
        x.back();
        Kit.is("each line of the law", x.walks(0, 0) * 100 + x.walks(1, 0) * 10 + x.walks(1, 1), 350);
        String kept = body(x);
        x.days(9);
        Kit.is("back again", x.back(), true);
        Kit.is("all as it was again", body(x), kept);
    }

    /** Undoing leaves the TAPE, fault() and THE IMAGE, and takes SEED along. */
    private static void between() {
        LaceBonds x = Kit.land(THREE);
        x.goal(0, 7);
        x.seed(123);
        x.feed(1, 2, 3, 4, 5);
        x.image();
        Kit.is("undo", x.undo(), true);
        Kit.is("seed as ahead", x.seed(1), 1);
        Kit.is("the tape stays", x.end(20), true);
        Kit.is("the image stays", x.back(), true);
        Kit.is("the image is of then", x.person(0, 3), 7);
        Kit.is("with its seed", x.seed(1), 123);
        x.goal(0, 8);
        Kit.text(x, "??");
        Kit.refuses("a wrong text", Kit.ARGUMENT, () -> x.land());
        x.undo();
        Kit.is("fault stays", x.fault(), 0);
    }

    /** The state without how many acts can be undone. */
    private static String body(LaceBonds x) {
        String all = Kit.all(x);
        int acts = x.count(10);
        int line = all.indexOf('\n');
        String head = line < 0 ? all : all.substring(0, line);
        String tail = line < 0 ? "" : all.substring(line);
        return head.substring(0, head.length() - (acts + " ").length()) + tail;
    }
}
