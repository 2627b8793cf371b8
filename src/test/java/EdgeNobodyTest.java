/** All promises in a land without PEOPLE, where there is no PERSON 0 and no LACE 0 either. */
public final class EdgeNobodyTest {
    public static void main(String[] args) {
        refused();
        refusedWithTape();
        answered();
        acts();
        texts();
        Kit.close("EdgeNobodyTest");
    }

    private static void refused() {
        Kit.sentence("LaceBonds()`: A land without PEOPLE.");
        for (int n : new int[] {0, -1, 1, 5, Integer.MIN_VALUE, Integer.MAX_VALUE}) {
            index("person", n, x -> x.person(n, 0));
            index("person what", n, x -> x.person(n, 99));
            index("lace", n, x -> x.lace(n, 0));
            index("lace what", n, x -> x.lace(n, 99));
            index("walks", n, x -> x.walks(n, 0));
            index("grows", n, x -> x.grows(n));
            index("lend by", n, x -> x.lend(n, 0, 0, 0, 0));
            index("pay", n, x -> x.pay(n));
            index("surety", n, x -> x.surety(n, -1));
            index("give", n, x -> x.give(n, n));
            index("goal", n, x -> x.goal(n, 0));
            index("rest", n, x -> x.rest(n));
            index("comes", n, x -> x.comes(n, 0));
            index("ahead", n, x -> x.ahead(n, -1, false));
            index("owes", n, x -> x.owes(n, n));
            index("leads", n, x -> x.leads(n));
            index("call", n, x -> x.call(n, true));
            index("mercy", n, x -> x.mercy(n));
            index("hangs", n, x -> x.hangs(n));
            index("race", n, x -> x.race(n));
            index("loose", n, x -> x.loose(n));
            index("led", n, x -> x.led(n, true));
        }
        for (int n : new int[] {-1, 20}) {
            index("mud", n, x -> x.mud(n));
            index("soonest", n, x -> x.soonest(n));
        }
    }

    private static void index(String what, int n, Kit.Deed deed) {
        Kit.leaves(LaceBonds::new, what + " " + n, Kit.INDEX, deed);
        LaceBonds x = new LaceBonds();
        Kit.refuses(what + " " + n, Kit.INDEX, () -> deed.on(x));
        Kit.is("no act", x.undo(), false);
        Kit.is("no text", x.fault(), -1);
    }

    private static void refusedWithTape() {
        withTape("carry of 0", Kit.INDEX, x -> x.carry(0));
        withTape("carry of -2", Kit.INDEX, x -> x.carry(-2));
        withTape("carry of a place", Kit.ARGUMENT, x -> x.carry(-1), 0);
        withTape("wear of one who is not", Kit.ARGUMENT, x -> x.wear(false), 0, 0, 0);
        withTape("sure of one who is not", Kit.ARGUMENT, x -> x.wear(true), 0, 0, 0);
        withTape("look at one who is not", Kit.ARGUMENT, x -> x.look(), 0, 0, 0);
        withTape("wear of one byte", Kit.ARGUMENT, x -> x.wear(false), 0);
    }

    private static void withTape(String what, String exception, Kit.Deed deed, int... bytes) {
        Kit.Maker told = ((Kit.Maker) LaceBonds::new).then(x -> {
            Kit.tape(x, bytes);
            return x;
        });
        Kit.leaves(told, what, exception, deed);
        LaceBonds x = told.make();
        Kit.refuses(what, exception, () -> deed.on(x));
        Kit.is("used up", x.end(1), false);
        Kit.is("no text", x.fault(), -1);
    }

    private static void answered() {
        LaceBonds x = new LaceBonds();
        String before = Kit.all(x);
        Kit.is("solvent", x.solvent(), 0);
        Kit.is("rings", x.rings(), 0);
        Kit.is("untie", x.untie(false), 0);
        Kit.is("untie, how many", x.untie(true), 0);
        Kit.is("trust", x.trust(), -1);
        Kit.is("needed", x.needed(), 0);
        Kit.is("pairs", x.pairs(), 0);
        Kit.is("rail", x.rail(), 0);
        for (int n : new int[] {0, 1, 60}) {
            Kit.is("breaks", x.breaks(n), 0);
            Kit.is("trial", x.trial(n, false), 0);
            Kit.is("lost by trial", x.trial(n, true), 0);
            Kit.is("fewest", x.span(n, false), 0);
            Kit.is("most", x.span(n, true), 0);
        }
        for (int n : new int[] {-1, 61}) {
            Kit.refuses("breaks " + n, Kit.ARGUMENT, () -> x.breaks(n));
            Kit.refuses("trial " + n, Kit.ARGUMENT, () -> x.trial(n, false));
            Kit.refuses("span " + n, Kit.ARGUMENT, () -> x.span(n, false));
        }
        for (int amount : new int[] {1, 999}) {
            Kit.is("lends", x.lends(amount), 0);
        }
        Kit.refuses("lends 0", Kit.ARGUMENT, () -> x.lends(0));
        Kit.refuses("lends 1000", Kit.ARGUMENT, () -> x.lends(1000));
        for (int place : new int[] {0, 19}) {
            Kit.is("mud", x.mud(place), 0);
            Kit.is("soonest", x.soonest(place), -1);
        }
        Kit.is("log", x.log(0, 3), -1);
        Kit.refuses("log what 4", Kit.ELEMENT, () -> x.log(0, 4));
        Kit.is("carry", x.carry(-1), 0);
        Kit.is("wear: the empty set alone", x.wear(false), 1);
        Kit.is("sure", x.wear(true), 0);
        Kit.is("look", x.look(), -1);
        Kit.is("nothing changed", Kit.all(x), before);
    }

    private static void acts() {
        LaceBonds x = new LaceBonds();
        Kit.is("undo", x.undo(), false);
        Kit.is("back", x.back(), false);
        Kit.is("days", x.days(60), 0);
        Kit.is("day", x.count(3), 60);
        Kit.is("no draw", x.seed(1), 1);
        Kit.refuses("days 0", Kit.ARGUMENT, () -> x.days(0));
        Kit.refuses("days 61", Kit.ARGUMENT, () -> x.days(61));
        Kit.is("one act", x.count(10), 1);
        Kit.is("undone", x.undo(), true);
        Kit.is("day 0", x.count(3), 0);
    }

    private static void texts() {
        LaceBonds x = new LaceBonds();
        Kit.reads(x, false, "slow 1 if even;fall 2;grow 3", 3);
        Kit.reads(x, true, "", 1);
        Kit.reads(x, true, "mud 3 4;fine 9;day 5", 2);
        Kit.is("mud", x.mud(3), 4);
        Kit.wrongAt(LaceBonds::new, true, "goal 0 0", 5);
        Kit.wrongAt(LaceBonds::new, true, "pledge 0 to 1 for 1 knot 0 till 1", 7);
        Kit.is("nobody still", x.count(0), 0);
    }
}
