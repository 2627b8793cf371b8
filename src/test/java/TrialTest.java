/** Promises 41 and 42: trial, span. */
public final class TrialTest {
    private static final String THREE = "person 30 pace 1 at 0;person 20 pace 1 at 19;person 0 pace 1 at 3;pledge 0 to 1 for 28 knot 0 till 3;pledge 3 to 0 for 90 knot 0 till 2"
            + ";goal 0 19;goal 1 0";

    public static void main(String[] args) {
        trials();
        spans();
        refusals();
        Kit.close("TrialTest");
    }

    private static void trials() {
        for (int seed : new int[] {1, 5, 1234567, -9}) {
            Kit.Maker told = Kit.of(THREE).law("fall 50").then(x -> x.seed(seed));
            for (int n = 1; n <= 60; n += 7) {
                trial(told, n);
            }
            Kit.asks(told, "by 0", 0, x -> x.trial(0, false));
            Kit.asks(told, "by 0, lost", 0, x -> x.trial(0, true));
        }
        LaceBonds x = Kit.lawOf(Kit.land(THREE), "fall 99;fall 1");
        Kit.is("all fall", x.trial(10, false), 20);
        Kit.is("ahead of the term", x.trial(2, true), 0);
        Kit.is("the second is lost first", x.trial(3, true), 8);
        Kit.is("who falls cannot pay", x.trial(4, true), 9);
        Kit.is("who does not fall can", x.breaks(4), 8);
        x.days(4);
        Kit.is("lost now, by 0", x.trial(0, true), 9);
        Kit.is("falls of those days alone", x.trial(3, false), 6);
    }

    private static void trial(Kit.Maker told, int n) {
        LaceBonds x = told.make();
        int fell = x.days(n);
        int lost = x.rail();
        Kit.asks(told, "days fall as by a trial of " + n, fell, y -> y.trial(n, false));
        Kit.asks(told, "and lose alike", lost, y -> y.trial(n, true));
    }

    private static void spans() {
        for (int by = 5; by < 100; by += 10) {
            Kit.Maker told = Kit.of(THREE).law("fall " + by).then(x -> x.days(1)).then(x -> x.seed(99));
            for (int n = 1; n <= 60; n += 7) {
                spanAsTrials(told, n);
            }
        }
        LaceBonds x = Kit.lawOf(Kit.land(THREE), "fall 50");
        Kit.is("by 0", x.span(0, false), 0);
        Kit.is("by 0, most", x.span(0, true), 0);
        x.days(20);
        Kit.lawOf(x, "fall 99;fall 1");
        x.goal(0, 0);
        x.goal(1, 19);
        Kit.is("falls of those days alone", x.span(2, false), x.trial(2, false));
        Kit.is("and not all", x.span(2, true), x.trial(2, false));
    }

    private static void spanAsTrials(Kit.Maker told, int n) {
        int least = Integer.MAX_VALUE;
        int most = -1;
        LaceBonds x = told.make();
        for (int seed = 1; seed <= 6; seed++) {
            x.seed(seed);
            least = Math.min(least, x.trial(n, false));
            most = Math.max(most, x.trial(n, false));
        }
        Kit.asks(told, "the fewest by " + n, least, y -> y.span(n, false));
        Kit.asks(told, "the most by " + n, most, y -> y.span(n, true));
    }

    private static void refusals() {
        for (int n : new int[] {-1, 61, Integer.MIN_VALUE, Integer.MAX_VALUE}) {
            Kit.leaves(Kit.of(THREE), "trial " + n, Kit.ARGUMENT, x -> x.trial(n, false));
            Kit.leaves(Kit.of(THREE), "trial lost " + n, Kit.ARGUMENT, x -> x.trial(n, true));
            Kit.leaves(Kit.of(THREE), "span " + n, Kit.ARGUMENT, x -> x.span(n, false));
            Kit.leaves(Kit.of(THREE), "span most " + n, Kit.ARGUMENT, x -> x.span(n, true));
        }
    }
}
