/** Promises 20 to 23: comes, soonest, carry, ahead. */
public final class WaysTest {
    public static void main(String[] args) {
        coming();
        comingMeanwhile();
        soonest();
        carrying();
        carryingTies();
        aheads();
        refusals();
        Kit.close("WaysTest");
    }

    private static void coming() {
        LaceBonds x = Kit.land("person 10 pace 5 at 0;person 10 pace 1 at 19;goal 1 3");
        String before = Kit.all(x);
        Kit.is("there now", x.comes(0, 0), 0);
        Kit.is("one day", x.comes(0, 5), 1);
        Kit.is("two days", x.comes(0, 6), 2);
        Kit.is("to the end", x.comes(0, 19), 4);
        Kit.is("another goal does not count", x.comes(1, 0), 19);
        Kit.is("there, with another goal", x.comes(1, 19), 0);
        Kit.is("nothing stays", Kit.all(x), before);
        Kit.lawOf(x, "slow 5;fall 99;fall 9");
        Kit.is("never", x.comes(0, 1), -1);
        Kit.is("never, but there", x.comes(0, 0), 0);
        Kit.lawOf(x, "fall 99;fall 9");
        Kit.is("nobody falls ahead", x.comes(0, 19), 4);
        Kit.lawOf(x, "slow 5 if day < 59");
        Kit.is("on day 60", x.comes(0, 5), 60);
        Kit.lawOf(x, "slow 5 if day < 60");
        Kit.is("not by 60", x.comes(0, 5), -1);
        Kit.lawOf(x, "slow 4 if not there");
        Kit.is("there is asked of that goal", x.comes(0, 5), 5);
    }

    /** What else goes on ahead changes how one walks: a lace is paid on day 3, another is lost. */
    private static void comingMeanwhile() {
        LaceBonds x = Kit.land("person 10 pace 3 at 0;person 10 pace 3 at 0;person 1 pace 9 at 0;pledge 0 to 1 for 10 knot 0 till 3;pledge 2 to 2 for 99 knot 0 till 3");
        // days 0 to 3 by 1, then by 3
        Kit.is("untied meanwhile", x.comes(0, 10), 6);
        Kit.is("lost for good", x.comes(1, 10), 10);
        Kit.lawOf(x, "slow 2 if held > 1;slow 1 if mud > 3");
        Kit.is("not slowed by the held ones", x.comes(1, 10), 4);
        Kit.text(x, "mud 3 4");
        x.land();
        Kit.is("slowed in the mud", x.comes(1, 7), 3);
    }

    private static void soonest() {
        LaceBonds x = Kit.land("person 10 pace 1 at 0;person 10 pace 2 at 19;person 10 pace 2 at 1");
        Kit.is("at 0", x.soonest(0), 0);
        Kit.is("at 19", x.soonest(19), 1);
        Kit.is("of several the least", x.soonest(10), 1);
        Kit.is("to 2", x.soonest(2), 2);
        Kit.lawOf(x, "slow 9");
        Kit.is("none", x.soonest(5), -1);
        Kit.is("one who is there", x.soonest(1), 2);
    }

    private static void carrying() {
        Kit.Maker three = Kit.of("person 10 pace 1 at 0;person 10 pace 2 at 10;person 10 pace 5 at 19");
        carry(three, 0, new int[] {0, 1, 2}, 0, 10, 19);
        carry(three, 0, new int[] {1, 2, 0}, 19, 0, 10);
        // 0 to 0, 1 to 0 by 5 days, 2 to 0 by 4
        carry(three, 9, new int[] {0, 1, 2}, 0, 0, 0);
        // all at 19 and 18 and 0: 0 stays at 0, 1 to 18 by 4, 2 stays
        carry(three, 4, new int[] {2, 0, 1}, 18, 19, 0);
        Kit.Maker stopped = three.law("slow 9");
        carry(stopped, 0, new int[] {1, 2, 0}, 19, 0, 10);
        carry(stopped, -1, new int[] {-1, -1, -1}, 19, 0, 11);
        carry(stopped, -1, new int[] {-1, -1, -1}, 0, 0, 10);
        // 0 must stay, though 2 could come to 0 more cheaply than to 5
        carry(three.law("slow 9 if who < 1"), 4, new int[] {1, 2, 0}, 15, 0, 5);
        Kit.Maker one = Kit.of("person 1 pace 9 at 9");
        carry(one, 1, new int[] {0}, 0);
        LaceBonds x = one.make();
        Kit.tape(x, 9, 255);
        x.end(1);
        Kit.is("what is cut off does not count", x.carry(-1), 0);
        Kit.Maker more = one.then(y -> {
            y.image();
            return y;
        }).then(y -> {
            Kit.text(y, "person 1 pace 1 at 9;person 1 pace 2 at 9");
            return y.land();
        });
        carry(more, 6, new int[] {2, 1, 0}, 17, 10, 0);
        carry(more.then(y -> y.back()), 2, new int[] {0}, 19);
    }

    /** Of ways that cost the same: PERSON 0 the least that can be, then 1, and so on. */
    private static void carryingTies() {
        String four = "person 1 pace 1 at 5;person 1 pace 1 at 5;person 1 pace 1 at 5;person 1 pace 1 at 5";
        carry(Kit.of(four), 10, new int[] {0, 1, 2, 3}, 5, 10, 0, 5);
        carry(Kit.of(four), 4, new int[] {0, 1, 2, 3}, 6, 4, 6, 4);
        Kit.Maker slowed = Kit.of(four).law("slow 1 if who > 2 and place + day > 5");
        // 3 comes to 6 or to any place below 5, as each day takes away what the place was less
        carry(slowed, 11, new int[] {0, 1, 2, 3}, 5, 10, 0, 6);
        carry(slowed, 15, new int[] {0, 1, 3, 2}, 0, 6, 1, 10);
        carry(Kit.of(four, "person 1 pace 1 at 5;person 1 pace 1 at 5"), 0, new int[] {0, 1, 2, 3, 4, 5}, 5, 5, 5, 5, 5, 5);
    }

    private static void aheads() {
        LaceBonds x = Kit.land("person 100 pace 5 at 0;person 20 pace 6 at 10;pledge 0 to 1 for 30 knot 2 till 5;goal 0 9;fine 50");
        String before = Kit.all(x);
        Kit.is("now", x.ahead(0, 0, false), 0);
        Kit.is("by 3", x.ahead(0, 1, false), 3);
        Kit.is("on", x.ahead(0, 3, false), 9);
        Kit.is("no farther", x.ahead(0, 60, false), 9);
        Kit.is("purse now", x.ahead(0, 0, true), 100);
        Kit.is("purse ahead of the term", x.ahead(0, 5, true), 100);
        Kit.is("purse behind it", x.ahead(0, 6, true), 58);
        Kit.is("the other's", x.ahead(1, 60, true), 62);
        Kit.is("nothing stays", Kit.all(x), before);
        Kit.lawOf(x, "fall 99;fall 9");
        Kit.is("nobody falls", x.ahead(0, 2, true), 100);
        Kit.is("and nobody stays", x.ahead(0, 2, false), 9);
    }

    private static void refusals() {
        Kit.Maker two = Kit.of("person 10 pace 5 at 0;person 10 pace 1 at 19");
        Kit.leaves(two, "comes -1", Kit.INDEX, x -> x.comes(-1, 0));
        Kit.leaves(two, "comes 2", Kit.INDEX, x -> x.comes(2, 0));
        Kit.leaves(two, "comes to -1", Kit.INDEX, x -> x.comes(0, -1));
        Kit.leaves(two, "comes to 20", Kit.INDEX, x -> x.comes(0, 20));
        Kit.leaves(two, "soonest -1", Kit.INDEX, x -> x.soonest(-1));
        Kit.leaves(two, "soonest 20", Kit.INDEX, x -> x.soonest(20));
        Kit.leaves(two, "ahead of 2", Kit.INDEX, x -> x.ahead(2, 61, false));
        Kit.leaves(two, "ahead of -1", Kit.INDEX, x -> x.ahead(-1, 1, false));
        Kit.leaves(two, "ahead by -1", Kit.ARGUMENT, x -> x.ahead(0, -1, false));
        Kit.leaves(two, "ahead by 61", Kit.ARGUMENT, x -> x.ahead(1, 61, true));
        notCarried(two, 2, Kit.INDEX, 1, 2);
        notCarried(two, -2, Kit.INDEX, 1, 2);
        notCarried(two, 2, Kit.INDEX, 1);
        notCarried(two, -1, Kit.ARGUMENT, 1);
        notCarried(two, 0, Kit.ARGUMENT, 1, 2, 3);
        notCarried(two, 0, Kit.ARGUMENT);
        notCarried(two, 0, Kit.ARGUMENT, 1, 20);
        notCarried(two, 0, Kit.ARGUMENT, 255, 1);
    }

    private static void notCarried(Kit.Maker world, int person, String exception, int... places) {
        String name = "carry " + person + " with " + places.length;
        Kit.leaves(told(world, places), name, exception, x -> x.carry(person));
        LaceBonds x = told(world, places).make();
        Kit.refuses(name, exception, () -> x.carry(person));
        Kit.is("the tape is used up", x.end(1), false);
    }

    private static Kit.Maker told(Kit.Maker world, int... places) {
        return world.then(x -> {
            Kit.tape(x, places);
            return x;
        });
    }

    private static void carry(Kit.Maker world, int much, int[] ways, int... places) {
        String to = " to " + java.util.Arrays.toString(places);
        Kit.asks(told(world, places), "carry" + to, much, x -> x.carry(-1));
        Kit.asks(told(world, places), "the tape is used up", false, x -> x.carry(-1) >= -1 && x.end(1));
        for (int p = 0; p < ways.length; p++) {
            int one = p;
            Kit.asks(told(world, places), "carry of " + p + to, ways[p], x -> x.carry(one));
        }
    }
}
