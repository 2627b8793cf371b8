/** Promise 1: a new object. */
public final class NewTest {
    public static void main(String[] args) {
        LaceBonds x = new LaceBonds();
        Kit.is("NONE", LaceBonds.NONE, -1);
        int[] due = {0, 0, -1, 0, 5, 0, 0, 0, 0, 0, 0};
        for (int what = 0; what < due.length; what++) {
            Kit.is("count " + what, x.count(what), due[what]);
        }
        Kit.is("count 11", x.count(11), -1);
        Kit.is("count -1", x.count(-1), -1);
        Kit.is("fault", x.fault(), -1);
        Kit.is("seed", x.seed(1), 1);
        for (int place = 0; place < 20; place++) {
            Kit.is("mud", x.mud(place), 0);
        }
        Kit.is("solvent", x.solvent(), 0);
        Kit.is("soonest", x.soonest(0), -1);
        Kit.is("rings", x.rings(), 0);
        Kit.is("untie", x.untie(false), 0);
        Kit.is("untie many", x.untie(true), 0);
        Kit.is("breaks", x.breaks(60), 0);
        Kit.is("trust", x.trust(), -1);
        Kit.is("needed", x.needed(), 0);
        Kit.is("pairs", x.pairs(), 0);
        Kit.is("lends", x.lends(1), 0);
        Kit.is("rail", x.rail(), 0);
        Kit.is("trial", x.trial(60, false), 0);
        Kit.is("span", x.span(60, true), 0);
        Kit.is("log", x.log(0, 0), -1);
        Kit.is("undo", x.undo(), false);
        Kit.is("back", x.back(), false);
        Kit.is("carry of nobody", x.carry(-1), 0);
        Kit.is("wear of nobody", x.wear(false), 1);
        Kit.is("sure of nobody", x.wear(true), 0);
        Kit.is("look of nobody", x.look(), -1);
        Kit.leaves(LaceBonds::new, "person 0", Kit.INDEX, y -> y.person(0, 0));
        Kit.leaves(LaceBonds::new, "lace 0", Kit.INDEX, y -> y.lace(0, 0));
        Kit.is("days", x.days(3), 0);
        Kit.is("day", x.count(3), 3);
        Kit.close("NewTest");
    }
}
