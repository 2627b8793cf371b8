/**
 * All promises: each refused call, which exception is told first, and that nothing changes but what the document says; ahead of
 * them the last arguments that are taken. The world is that of Twins: four PEOPLE; LACE 0 is PLEDGED by 0 to 2 for 50, LACE 2 by 1
 * to 0 for 26 with SURETY 3, LACE 7 is LOST to 2, all others are in their shoes; PURSES 143, 13, 450, 3.
 */
public final class EdgeRefusedTest {
    private static final int LEAST = Integer.MIN_VALUE;
    private static final int MOST = Integer.MAX_VALUE;
    private static final int[] NO_PERSON = {-1, 4, -2, 5, 6, LEAST, MOST};
    private static final int[] NO_LACE = {-1, 8, -2, 11, 12, LEAST, MOST};
    private static final int[] NO_PLACE = {-1, 20, 255, LEAST, MOST};
    private static final int[] NO_DAYS_AHEAD = {-1, 61, LEAST, MOST};

    public static void main(String[] args) {
        texts();
        people();
        laces();
        lending();
        lendingJust();
        paying();
        sureties();
        giving();
        goalsAndRests();
        days();
        ways();
        carrying();
        carryingJust();
        debts();
        wearing();
        others();
        trials();
        log();
        nothingHappens();
        Kit.close("EdgeRefusedTest");
    }

    private static void texts() {
        Kit.sentence("a call that throws changes nothing but the TAPE, where it is used up, and fault(), where a text is read (also by one that is refused)");
        Twins.refusedWithTape("a wrong land", Kit.ARGUMENT, 7, x -> land(x, "fine 9;zz"));
        Twins.refusedWithTape("a land that ends too early", Kit.ARGUMENT, 7, x -> land(x, "fine 9;"));
        Twins.refusedWithTape("a wrong law", Kit.ARGUMENT, 7, x -> law(x, "slow 9;zz"));
        Twins.refusedWithTape("a law that ends too early", Kit.ARGUMENT, 9, x -> law(x, "slow 9 if"));
        Twins.refusedWithTape("a law that is on the tape as a land", Kit.ARGUMENT, 0, x -> x.land());
        Kit.sentence("IllegalArgumentException: it is wrong; UnsupportedOperationException: there are 12.");
        twelveTexts("fine 9", Kit.UNSUPPORTED, -1);
        twelveTexts("", Kit.UNSUPPORTED, -1);
        twelveTexts("fine 9;zz", Kit.ARGUMENT, 7);
        twelveTexts("fine 9;", Kit.ARGUMENT, 7);
    }

    private static void twelveTexts(String text, String exception, int fault) {
        Kit.Maker twelve = Kit.of("person 9 pace 9 at 9", "", "", "", "", "", "", "", "", "", "", "").then(x -> x.goal(0, 3)).then(x -> x.seed(5));
        Kit.leaves(twelve, "a 13th text", exception, x -> land(x, text));
        LaceBonds x = twelve.make();
        Kit.refuses("a 13th text", exception, () -> land(x, text));
        Kit.is("its fault", x.fault(), fault);
        Kit.is("used up", x.end(1), false);
        Kit.is("no image", x.back(), false);
        Kit.is("the act is remembered", x.undo(), true);
        Kit.is("and undone", x.person(0, 3), 9);
    }

    private static void people() {
        Kit.sentence("IndexOutOfBoundsException: there is no such PERSON, LACE, PLACE.");
        for (int p : NO_PERSON) {
            Twins.refused("person " + p, Kit.INDEX, x -> x.person(p, 0));
            Twins.refused("person and what " + p, Kit.INDEX, x -> x.person(p, 11));
            Twins.refused("walks " + p, Kit.INDEX, x -> x.walks(p, 0));
            Twins.refused("walks and what " + p, Kit.INDEX, x -> x.walks(p, 2));
        }
        Kit.sentence("10 SHARE. NoSuchElementException: another what.");
        for (int what : new int[] {-1, 11, LEAST, MOST}) {
            Twins.refused("person what " + what, Kit.ELEMENT, x -> x.person(3, what));
        }
        Twins.asked("person 3 what 0", 3, x -> x.person(3, 0));
        Twins.asked("person 2 what 10", 100, x -> x.person(2, 10));
        Kit.sentence("0 it WALKS, 1 it FALLS by now. NoSuchElementException: another what.");
        for (int what : new int[] {-1, 2, LEAST, MOST}) {
            Twins.refused("walks what " + what, Kit.ELEMENT, x -> x.walks(0, what));
        }
        Twins.asked("walks of 3", 9, x -> x.walks(3, 0));
        Twins.asked("falls of 0", 30, x -> x.walks(0, 1));
    }

    private static void laces() {
        Kit.sentence("5 the SURETY (NONE). NoSuchElementException: another what.");
        for (int l : NO_LACE) {
            Twins.refused("lace " + l, Kit.INDEX, x -> x.lace(l, 0));
            Twins.refused("lace and what " + l, Kit.INDEX, x -> x.lace(l, 6));
            Twins.refused("grows " + l, Kit.INDEX, x -> x.grows(l));
        }
        for (int what : new int[] {-1, 6, LEAST, MOST}) {
            Twins.refused("lace what " + what, Kit.ELEMENT, x -> x.lace(0, what));
        }
        Twins.asked("lace 7 what 0", 2, x -> x.lace(7, 0));
        Twins.asked("lace 2 what 5", 3, x -> x.lace(2, 5));
        Twins.asked("grows of 0", 6, x -> x.grows(0));
        Twins.asked("grows of 7", 0, x -> x.grows(7));
        for (int p : NO_PLACE) {
            Twins.refused("mud " + p, Kit.INDEX, x -> x.mud(p));
        }
        Twins.asked("mud 0", 0, x -> x.mud(0));
        Twins.asked("mud 19", 0, x -> x.mud(19));
    }

    private static void lending() {
        Kit.sentence("IllegalArgumentException: it is its owner, or AMOUNT (1 to 999), KNOT, TERM (1 to 9999) are none;"
                + " IllegalStateException: the LACE is not in its shoe, or the PURSE is less.");
        for (int p : NO_PERSON) {
            Twins.refused("lend by " + p, Kit.INDEX, x -> x.lend(p, 4, 1, 0, 1));
            Twins.refused("lend by " + p + ", all else wrong", Kit.INDEX, x -> x.lend(p, 0, 0, 10, 0));
        }
        for (int l : NO_LACE) {
            Twins.refused("lend for " + l, Kit.INDEX, x -> x.lend(0, l, 1, 0, 1));
            Twins.refused("lend for " + l + ", all else wrong", Kit.INDEX, x -> x.lend(0, l, 0, 10, 0));
        }
        for (int amount : new int[] {0, 1000, -1, LEAST, MOST}) {
            Twins.refused("amount " + amount, Kit.ARGUMENT, x -> x.lend(0, 4, amount, 0, 1));
            Twins.refused("amount " + amount + ", pledged", Kit.ARGUMENT, x -> x.lend(3, 0, amount, 0, 1));
        }
        for (int knot : new int[] {-1, 10, LEAST, MOST}) {
            Twins.refused("knot " + knot, Kit.ARGUMENT, x -> x.lend(0, 4, 1, knot, 1));
            Twins.refused("knot " + knot + ", purse", Kit.ARGUMENT, x -> x.lend(3, 4, 4, knot, 1));
        }
        for (int term : new int[] {0, 10000, -1, LEAST, MOST}) {
            Twins.refused("term " + term, Kit.ARGUMENT, x -> x.lend(0, 4, 1, 0, term));
            Twins.refused("term " + term + ", lost", Kit.ARGUMENT, x -> x.lend(0, 7, 1, 0, term));
        }
        Twins.refused("its owner", Kit.ARGUMENT, x -> x.lend(2, 4, 1, 0, 1));
        Twins.refused("its owner, right", Kit.ARGUMENT, x -> x.lend(2, 5, 1, 0, 1));
        Twins.refused("its owner, pledged", Kit.ARGUMENT, x -> x.lend(1, 2, 1, 0, 1));
        Twins.refused("its owner, purse", Kit.ARGUMENT, x -> x.lend(3, 6, 4, 0, 1));
        Twins.refused("pledged", Kit.STATE, x -> x.lend(0, 2, 1, 0, 1));
        Twins.refused("lost", Kit.STATE, x -> x.lend(0, 7, 1, 0, 1));
        Twins.refused("lost, its keeper", Kit.STATE, x -> x.lend(2, 7, 1, 0, 1));
        Twins.refused("the purse is 1 less", Kit.STATE, x -> x.lend(3, 4, 4, 0, 1));
        Twins.refused("the purse is far less", Kit.STATE, x -> x.lend(2, 1, 999, 9, 9999));
    }

    private static void lendingJust() {
        Kit.is("all of a purse", Twins.make().lend(3, 4, 3, 0, 1), 0);
        Kit.is("amount 1, the last knot, the last term", Twins.make().lend(0, 5, 1, 9, 9999), 142);
        Kit.is("amount 999", Kit.land("person 999 pace 1 at 1;person 0 pace 1 at 1").lend(0, 2, 999, 0, 1), 0);
    }

    private static void paying() {
        Kit.sentence("IllegalStateException: it is not PLEDGED, or its owner's PURSE is less.");
        for (int l : NO_LACE) {
            Twins.refused("pay " + l, Kit.INDEX, x -> x.pay(l));
        }
        Twins.refused("in its shoe", Kit.STATE, x -> x.pay(1));
        Twins.refused("lost", Kit.STATE, x -> x.pay(7));
        Twins.refused("the purse is less, whatever the surety has", Kit.STATE, x -> x.pay(2));
        Kit.is("enough", Twins.make().pay(0), 50);
        Kit.Maker just = Kit.of("person 9 pace 1 at 1;person 0 pace 1 at 1;pledge 0 to 1 for 9 knot 0 till 9;pledge 1 to 1 for 10 knot 0 till 9");
        Kit.leaves(just, "1 less", Kit.STATE, x -> x.pay(1));
        Kit.is("just enough", just.make().pay(0), 9);
    }

    private static void sureties() {
        Kit.sentence("IllegalArgumentException: it is the owner or the HOLDER; IllegalStateException: it is not PLEDGED.");
        for (int l : NO_LACE) {
            Twins.refused("surety of " + l, Kit.INDEX, x -> x.surety(l, 0));
            Twins.refused("none of " + l, Kit.INDEX, x -> x.surety(l, -1));
        }
        for (int p : new int[] {-2, 4, LEAST, MOST}) {
            Twins.refused("surety " + p, Kit.INDEX, x -> x.surety(0, p));
            Twins.refused("surety " + p + ", in its shoe", Kit.INDEX, x -> x.surety(1, p));
        }
        Twins.refused("owner", Kit.ARGUMENT, x -> x.surety(0, 0));
        Twins.refused("holder", Kit.ARGUMENT, x -> x.surety(0, 2));
        Twins.refused("owner, in its shoe", Kit.ARGUMENT, x -> x.surety(1, 0));
        Twins.refused("owner, lost", Kit.ARGUMENT, x -> x.surety(7, 3));
        Twins.refused("keeper, lost", Kit.ARGUMENT, x -> x.surety(7, 2));
        Twins.refused("in its shoe", Kit.STATE, x -> x.surety(1, 2));
        Twins.refused("none, in its shoe", Kit.STATE, x -> x.surety(1, -1));
        Twins.refused("lost", Kit.STATE, x -> x.surety(7, 0));
        Twins.refused("none, lost", Kit.STATE, x -> x.surety(7, -1));
        Kit.is("first", Twins.make().surety(0, 3), -1);
        Kit.is("the same", Twins.make().surety(2, 3), 3);
        Kit.is("none", Twins.make().surety(2, -1), 3);
    }

    private static void giving() {
        Kit.sentence("IllegalArgumentException: that one is its owner, its HOLDER, or its SURETY; IllegalStateException: it is not PLEDGED, or that PURSE is less.");
        for (int l : NO_LACE) {
            Twins.refused("give " + l, Kit.INDEX, x -> x.give(l, 3));
        }
        for (int p : NO_PERSON) {
            Twins.refused("give to " + p, Kit.INDEX, x -> x.give(0, p));
            Twins.refused("give to " + p + ", in its shoe", Kit.INDEX, x -> x.give(1, p));
        }
        Twins.refused("owner", Kit.ARGUMENT, x -> x.give(0, 0));
        Twins.refused("owner whose purse is less", Kit.ARGUMENT, x -> x.give(2, 1));
        Twins.refused("holder", Kit.ARGUMENT, x -> x.give(0, 2));
        Twins.refused("surety whose purse is less", Kit.ARGUMENT, x -> x.give(2, 3));
        Twins.refused("owner, in its shoe", Kit.ARGUMENT, x -> x.give(1, 0));
        Twins.refused("owner, lost", Kit.ARGUMENT, x -> x.give(7, 3));
        Twins.refused("keeper, lost", Kit.ARGUMENT, x -> x.give(7, 2));
        Twins.refused("in its shoe", Kit.STATE, x -> x.give(1, 2));
        Twins.refused("lost", Kit.STATE, x -> x.give(7, 0));
        Twins.refused("the purse is less", Kit.STATE, x -> x.give(0, 1));
        Kit.is("enough", Twins.make().give(2, 2), 0);
        Kit.Maker just = Kit.of("person 9 pace 1 at 1;person 0 pace 1 at 1;person 10 pace 1 at 1;pledge 2 to 0 for 10 knot 0 till 9",
                "person 9 pace 1 at 1;person 11 pace 1 at 1");
        Kit.leaves(just, "1 less", Kit.STATE, x -> x.give(2, 3));
        LaceBonds given = just.make();
        Kit.is("just enough", given.give(2, 2), 0);
        Kit.is("1 more", given.give(2, 4), 2);
    }

    private static void goalsAndRests() {
        Kit.sentence("IndexOutOfBoundsException: there is no such PERSON, LACE, PLACE.");
        for (int p : NO_PERSON) {
            Twins.refused("goal of " + p, Kit.INDEX, x -> x.goal(p, 0));
            Twins.refused("goal of " + p + " to none", Kit.INDEX, x -> x.goal(p, 20));
            Twins.refused("rest of " + p, Kit.INDEX, x -> x.rest(p));
        }
        for (int place : NO_PLACE) {
            Twins.refused("goal " + place, Kit.INDEX, x -> x.goal(0, place));
        }
        Kit.is("goal 0", Twins.make().goal(0, 0), 12);
        Kit.is("goal 19", Twins.make().goal(3, 19), 7);
        Kit.is("rest of the last", Twins.make().rest(3), 0);
    }

    private static void days() {
        Kit.sentence("So many DAYS more (1 to 60): how often somebody fell. IllegalArgumentException: they are none.");
        for (int n : new int[] {0, 61, -1, 62, LEAST, MOST}) {
            Twins.refused("days " + n, Kit.ARGUMENT, x -> x.days(n));
        }
        LaceBonds x = Kit.land("person 9 pace 9 at 9");
        Kit.is("1", x.days(1) + x.count(3), 1);
        Kit.is("60", x.days(60) + x.count(3), 61);
    }

    private static void ways() {
        Kit.sentence("AHEAD by N DAYS (0 to 60)");
        for (int p : NO_PERSON) {
            Twins.refused("comes " + p, Kit.INDEX, x -> x.comes(p, 0));
            Twins.refused("comes " + p + " to none", Kit.INDEX, x -> x.comes(p, 20));
            Twins.refused("ahead of " + p, Kit.INDEX, x -> x.ahead(p, 0, false));
            Twins.refused("ahead of " + p + " by none", Kit.INDEX, x -> x.ahead(p, 61, true));
        }
        for (int place : NO_PLACE) {
            Twins.refused("comes to " + place, Kit.INDEX, x -> x.comes(3, place));
            Twins.refused("soonest to " + place, Kit.INDEX, x -> x.soonest(place));
        }
        for (int n : NO_DAYS_AHEAD) {
            Twins.refused("ahead by " + n, Kit.ARGUMENT, x -> x.ahead(0, n, false));
            Twins.refused("purse ahead by " + n, Kit.ARGUMENT, x -> x.ahead(3, n, true));
        }
        Twins.asked("comes to 0", 3, x -> x.comes(3, 0));
        Twins.asked("comes to 19", 0, x -> x.comes(3, 19));
        Twins.asked("soonest to 0", 0, x -> x.soonest(0));
        Twins.asked("soonest to 19", 3, x -> x.soonest(19));
        Twins.asked("ahead by 0", 19, x -> x.ahead(3, 0, false));
        Twins.asked("ahead by 60", 7, x -> x.ahead(3, 60, false));
        Twins.asked("purse ahead by 0", 143, x -> x.ahead(0, 0, true));
    }

    private static void carrying() {
        Kit.sentence("IndexOutOfBoundsException: there is no such PERSON; IllegalArgumentException: the TAPE is not that.");
        for (int p : new int[] {-2, 4, LEAST, MOST}) {
            Twins.refusedWithTape("carry " + p, Kit.INDEX, 11, x -> carry(x, p, 0, 1, 2, 3));
            Twins.refusedWithTape("carry " + p + ", no tape", Kit.INDEX, 11, x -> carry(x, p));
            Twins.refusedWithTape("carry " + p + ", a text", Kit.INDEX, 11, x -> x.carry(p));
        }
        for (int p : new int[] {-1, 0, 3}) {
            Twins.refusedWithTape("no tape for " + p, Kit.ARGUMENT, 11, x -> carry(x, p));
            Twins.refusedWithTape("one too few for " + p, Kit.ARGUMENT, 11, x -> carry(x, p, 0, 1, 2));
            Twins.refusedWithTape("one too many for " + p, Kit.ARGUMENT, 11, x -> carry(x, p, 0, 1, 2, 3, 4));
            Twins.refusedWithTape("the first is none for " + p, Kit.ARGUMENT, 11, x -> carry(x, p, 20, 1, 2, 3));
            Twins.refusedWithTape("the last is none for " + p, Kit.ARGUMENT, 11, x -> carry(x, p, 0, 1, 2, 20));
            Twins.refusedWithTape("a byte 255 for " + p, Kit.ARGUMENT, 11, x -> carry(x, p, 0, 1, 255, 3));
            Twins.refusedWithTape("a text for " + p, Kit.ARGUMENT, 11, x -> x.carry(p));
        }
    }

    /** PEOPLE are at 4, 4, 5 and 19: one of the first two must go to 3, and 0 takes the lesser number of the TAPE. */
    private static void carryingJust() {
        Kit.sentence("the TAPE: a byte for each PERSON, 0 to 19");
        Twins.askedWithTape("how much", 1, x -> carry(x, -1, 19, 3, 5, 4));
        int[] ways = {1, 3, 2, 0};
        for (int p = 0; p < 4; p++) {
            int one = p;
            Twins.askedWithTape("the way of " + p, ways[p], x -> carry(x, one, 19, 3, 5, 4));
        }
    }

    private static void debts() {
        Kit.sentence("IllegalArgumentException: both are one.");
        for (int p : NO_PERSON) {
            Twins.refused("owes " + p, Kit.INDEX, x -> x.owes(p, 0));
            Twins.refused("owes to " + p, Kit.INDEX, x -> x.owes(0, p));
            Twins.refused("owes both " + p, Kit.INDEX, x -> x.owes(p, p));
            Twins.refused("leads " + p, Kit.INDEX, x -> x.leads(p));
            Twins.refused("call " + p, Kit.INDEX, x -> x.call(p, false));
            Twins.refused("call, how much, " + p, Kit.INDEX, x -> x.call(p, true));
            Twins.refused("hangs " + p, Kit.INDEX, x -> x.hangs(p));
        }
        for (int p = 0; p < 4; p++) {
            int one = p;
            Twins.refused("owes itself " + p, Kit.ARGUMENT, x -> x.owes(one, one));
        }
        for (int n : NO_DAYS_AHEAD) {
            Twins.refused("breaks by " + n, Kit.ARGUMENT, x -> x.breaks(n));
        }
        for (int l : NO_LACE) {
            Twins.refused("mercy for " + l, Kit.INDEX, x -> x.mercy(l));
        }
        Twins.asked("rings", 0, x -> x.rings());
        Twins.asked("untie", 0, x -> x.untie(false));
        Twins.asked("owes by others", true, x -> x.owes(1, 2));
        Twins.asked("owes not", false, x -> x.owes(3, 2));
        Twins.asked("leads", 5, x -> x.leads(1));
        Twins.asked("call", 1, x -> x.call(2, false));
        Twins.asked("call of nothing that can be paid", 0, x -> x.call(0, true));
        Twins.asked("breaks by 0", 0, x -> x.breaks(0));
        Twins.asked("breaks by 60", 4, x -> x.breaks(60));
        Twins.asked("mercy", 12, x -> x.mercy(2));
        Twins.asked("mercy of one in its shoe", -1, x -> x.mercy(3));
        Twins.asked("mercy of a lost one", -1, x -> x.mercy(7));
        Twins.asked("hangs", 4, x -> x.hangs(3));
        Twins.asked("trust", 3, x -> x.trust());
        Twins.asked("needed", 1, x -> x.needed());
        Twins.asked("solvent", 13, x -> x.solvent());
    }

    private static void wearing() {
        Kit.sentence("IllegalArgumentException: the TAPE is not that (from is above to, there is no such PERSON; none may be told).");
        notWorn("one byte", 0);
        notWorn("two bytes", 0, 0);
        notWorn("four bytes", 0, 0, 0, 0);
        notWorn("from above to", 1, 0, 1);
        notWorn("from above to in the second row", 0, 3, 1, 3, 2, 1);
        notWorn("no such person", 0, 4, 1);
        notWorn("both none", 4, 4, 1);
        notWorn("byte 255", 255, 255, 0);
        notWorn("39 bytes", new int[39]);
        notWorn("37 bytes", new int[37]);
        Twins.refusedWithTape("a text of 15 bytes", Kit.ARGUMENT, 11, x -> x.wear(false));
        Twins.refusedWithTape("a text of 15 bytes to look", Kit.ARGUMENT, 11, x -> x.look());
        Twins.askedWithTape("none told", 16, x -> wear(x, false));
        Twins.askedWithTape("none told, sure", 0, x -> wear(x, true));
        Twins.askedWithTape("none told, look", 0, x -> look(x));
        Twins.askedWithTape("the last person alone", 8, x -> wear(x, true, 3, 3, 1));
        Twins.askedWithTape("36 bytes", 8, x -> wear(x, false, new int[36]));
        Twins.askedWithTape("look at the next", 1, x -> look(x, new int[36]));
    }

    private static void notWorn(String what, int... rows) {
        Twins.refusedWithTape(what, Kit.ARGUMENT, 11, x -> wear(x, false, rows));
        Twins.refusedWithTape(what + ", sure", Kit.ARGUMENT, 11, x -> wear(x, true, rows));
        Twins.refusedWithTape(what + ", look", Kit.ARGUMENT, 11, x -> look(x, rows));
    }

    private static void others() {
        Kit.sentence("LENDS of an amount (1 to 999)");
        for (int amount : new int[] {0, 1000, -1, LEAST, MOST}) {
            Twins.refused("lends " + amount, Kit.ARGUMENT, x -> x.lends(amount));
        }
        Twins.asked("lends 1", 15, x -> x.lends(1));
        Twins.asked("lends 999", 0, x -> x.lends(999));
        for (int p : NO_PERSON) {
            Twins.refused("race " + p, Kit.INDEX, x -> x.race(p));
            Twins.refused("loose " + p, Kit.INDEX, x -> x.loose(p));
        }
        Twins.asked("race", 0, x -> x.race(3));
        Twins.asked("pairs", 0, x -> x.pairs());
        Twins.asked("loose", 26, x -> x.loose(1));
        Twins.asked("loose of a lost one", -1, x -> x.loose(3));
        Twins.asked("rail", 128, x -> x.rail());
    }

    private static void trials() {
        Kit.sentence("TRIAL of N DAYS (0 to 60) from now (draws, too; nothing stays)");
        for (int n : NO_DAYS_AHEAD) {
            Twins.refused("trial " + n, Kit.ARGUMENT, x -> x.trial(n, false));
            Twins.refused("lost by trial " + n, Kit.ARGUMENT, x -> x.trial(n, true));
            Twins.refused("span " + n, Kit.ARGUMENT, x -> x.span(n, false));
            Twins.refused("most of span " + n, Kit.ARGUMENT, x -> x.span(n, true));
        }
        Twins.asked("trial 0", 0, x -> x.trial(0, false));
        Twins.asked("lost by trial 0", 128, x -> x.trial(0, true));
        Twins.asked("lost by trial 60", 132, x -> x.trial(60, true));
        Twins.asked("trial 60 is as days 60", Twins.make().days(60), x -> x.trial(60, false));
        Twins.asked("span 0", 0, x -> x.span(0, true));
        Twins.asked("span 60", true, x -> x.span(60, false) <= x.span(60, true));
    }

    private static void log() {
        Kit.sentence("3 AMOUNT; NONE without. NoSuchElementException: another what.");
        for (int what : new int[] {-1, 4, LEAST, MOST}) {
            Twins.refused("log what " + what, Kit.ELEMENT, x -> x.log(0, what));
            Twins.refused("log what " + what + " of no row", Kit.ELEMENT, x -> x.log(60, what));
            Twins.refused("log what " + what + " below 0", Kit.ELEMENT, x -> x.log(-1, what));
        }
        for (int l : NO_LACE) {
            Twins.refused("led " + l, Kit.INDEX, x -> x.led(l, false));
            Twins.refused("led day of " + l, Kit.INDEX, x -> x.led(l, true));
        }
        Twins.asked("the latest", 50, x -> x.log(0, 3));
        Twins.asked("the first", 1, x -> x.log(1, 0));
        for (int ago : new int[] {2, -1, 59, 60, LEAST, MOST}) {
            Twins.asked("no row " + ago, -1, x -> x.log(ago, 0));
        }
        Twins.asked("led", 1, x -> x.led(7, true));
        Twins.asked("not led", -1, x -> x.led(6, true));
    }

    private static void nothingHappens() {
        Kit.sentence("false, and nothing happens, if it has fewer, or n is below 0.");
        for (int n : new int[] {16, -1, 400, 401, LEAST, MOST}) {
            Twins.asked("end " + n, false, x -> x.end(n));
        }
        Twins.asked("end of all", true, x -> x.end(15));
        Kit.sentence("NONE for another what.");
        for (int what : new int[] {-1, 11, LEAST, MOST}) {
            Twins.asked("count " + what, -1, x -> x.count(what));
        }
        Twins.asked("count 10", 3, x -> x.count(10));
        Kit.sentence("all is as ahead of it (but for the TAPE, fault(), THE IMAGE)");
        Twins.asked("an act undone", true, x -> x.rest(0) == 1 && x.undo());
        Twins.asked("two acts undone", true, x -> x.days(60) >= 0 && x.goal(0, 19) == 12 && x.undo() && x.undo());
        Twins.asked("seed told back", 77, x -> x.seed(x.seed(5)) + 72);
    }

    private static Object land(LaceBonds x, String text) {
        Kit.text(x, text);
        return x.land();
    }

    private static Object law(LaceBonds x, String text) {
        Kit.text(x, text);
        return x.law();
    }

    private static Object carry(LaceBonds x, int person, int... places) {
        Kit.tape(x, places);
        return x.carry(person);
    }

    private static Object wear(LaceBonds x, boolean sure, int... rows) {
        Kit.tape(x, rows);
        return x.wear(sure);
    }

    private static Object look(LaceBonds x, int... rows) {
        Kit.tape(x, rows);
        return x.look();
    }
}
