/** Promises 7 to 11 and 19 to 43: each edge that the document names of what is asked. */
public final class EdgeAskTest {
    private static final String SIX = "person 0 pace 1 at 0;person 0 pace 1 at 0;person 0 pace 1 at 0;person 0 pace 1 at 0;person 0 pace 1 at 0;person 0 pace 1 at 0";

    public static void main(String[] args) {
        atFirst();
        worth();
        gaitAndHeld();
        shares();
        solvent();
        comes();
        soonest();
        carry();
        rings();
        leads();
        calls();
        breaks();
        mercy();
        trust();
        needed();
        wear();
        look();
        races();
        lends();
        loose();
        trials();
        spans();
        led();
        lawParts();
        Kit.close("EdgeAskTest");
    }

    /** People with these purses, all at 0 with pace 1. */
    private static LaceBonds purses(int... all) {
        StringBuilder text = new StringBuilder();
        for (int purse : all) {
            text.append(text.length() == 0 ? "" : ";").append("person ").append(purse).append(" pace 1 at 0");
        }
        return Kit.land(text.toString());
    }

    private static LaceBonds tell(LaceBonds x, String... lines) {
        Kit.text(x, String.join(";", lines));
        x.land();
        return x;
    }

    private static String pledge(int lace, int holder, int amount, int term) {
        return "pledge " + lace + " to " + holder + " for " + amount + " knot 0 till " + term;
    }

    private static void atFirst() {
        Kit.sentence("a GOAL (a PLACE; the own one at first), TIRED 0 to 9 (0 at first). LACES: two of each PERSON, numbered 2 times its number (left) and that and 1 (right).");
        for (int many = 1; many <= 6; many++) {
            LaceBonds x = new LaceBonds();
            for (int p = 0; p < many; p++) {
                tell(x, "person " + (10 + p) + " pace " + (1 + p) + " at " + (12 + p));
            }
            for (int p = 0; p < many; p++) {
                int[] due = {10 + p, 1 + p, 12 + p, 12 + p, 0, 0, 0, 0, 0, 10 + p, 0};
                for (int what = 0; what <= 10; what++) {
                    Kit.is("person " + p + " what " + what, x.person(p, what), due[what]);
                }
                for (int l = 2 * p; l <= 2 * p + 1; l++) {
                    int[] free = {0, -1, 0, 0, 0, -1};
                    for (int what = 0; what <= 5; what++) {
                        Kit.is("lace " + l + " what " + what, x.lace(l, what), free[what]);
                    }
                }
            }
            Kit.refuses("no person behind the last", Kit.INDEX, () -> x.person(x.count(0), 0));
            Kit.refuses("no lace behind the last", Kit.INDEX, () -> x.lace(2 * x.count(0), 0));
        }
    }

    private static void worth() {
        Kit.sentence("WORTH: PURSE and what is DUE less what it OWES (may be below 0).");
        LaceBonds x = tell(purses(0, 999), pledge(0, 1, 999, 900), pledge(1, 1, 999, 900), pledge(3, 0, 1, 900));
        Kit.is("owes all that can be", x.person(0, 7), 1998);
        Kit.is("far below 0", x.person(0, 9), -1997);
        Kit.is("due", x.person(1, 8), 1998);
        Kit.is("far above", x.person(1, 9), 2996);
        Kit.is("just 0", tell(purses(5, 0), pledge(0, 1, 5, 9)).person(0, 9), 0);
        Kit.is("just below", tell(purses(4, 0), pledge(0, 1, 5, 9)).person(0, 9), -1);
        LaceBonds all = Kit.land(SIX);
        for (int p = 1; p < 6; p++) {
            tell(all, pledge(2 * p, 0, 999, 900), pledge(2 * p + 1, 0, 999, 900));
        }
        Kit.is("ten laces", all.person(0, 8), 9990);
        Kit.is("as bits", all.person(0, 6), 4092);
        Kit.is("amounts of all", all.count(6), 9990);
        Kit.is("pledged ones", all.count(5), 4092);
    }

    private static void gaitAndHeld() {
        Kit.sentence("GAIT: its own LACES that are not in their shoes (1 left, 2 right, 3 both).");
        for (int gait = 0; gait <= 3; gait++) {
            LaceBonds x = purses(0, 0, 0, 0, 0, 0);
            if ((gait & 1) != 0) {
                tell(x, pledge(10, 0, 1, 1));
            }
            if ((gait & 2) != 0) {
                tell(x, pledge(11, 0, 1, 1));
            }
            Kit.is("pledged", x.person(5, 5), gait);
            Kit.is("held", x.person(0, 6), gait << 10);
            x.days(2);
            Kit.is("lost", x.rail(), gait << 10);
            Kit.is("gait of lost ones", x.person(5, 5), gait);
            Kit.is("held still", x.person(0, 6), gait << 10);
            Kit.is("of the holder nothing is slack", x.person(0, 5), 0);
        }
    }

    private static void shares() {
        Kit.sentence("SHARE of one: how many of these it holds, in hundredths of all LOST ones, rounded down (0 without).");
        for (int first = 0; first <= 5; first++) {
            for (int second = 0; second <= 4; second++) {
                LaceBonds x = Kit.land(SIX);
                for (int i = 0; i < first; i++) {
                    tell(x, pledge(11 - i, 0, 1, 1));
                }
                for (int i = 0; i < second; i++) {
                    tell(x, pledge(i, 4, 1, 1));
                }
                x.days(2);
                int all = first + second;
                Kit.is(first + " of " + all, x.person(0, 10), all == 0 ? 0 : first * 100 / all);
                Kit.is(second + " of " + all, x.person(4, 10), all == 0 ? 0 : second * 100 / all);
                Kit.is("of one without", x.person(2, 10), 0);
            }
        }
    }

    private static void solvent() {
        Kit.sentence("SOLVENT: PEOPLE whose PURSE is what they OWE at least, as bits.");
        Kit.is("1 less, just, 1 more", tell(purses(9, 10, 11, 0), pledge(0, 3, 10, 9), pledge(2, 3, 10, 9), pledge(4, 3, 10, 9)).solvent(), 14);
        Kit.is("both laces count", tell(purses(9, 10, 0), pledge(0, 2, 5, 9), pledge(1, 2, 5, 9), pledge(2, 0, 5, 9), pledge(3, 2, 5, 9)).solvent(), 6);
        Kit.is("all six", Kit.land(SIX).solvent(), 63);
    }

    /** On 19 places none needs 60 days by walking alone, so the law keeps one waiting. */
    private static void comes() {
        Kit.sentence("COMES of a PERSON to a PLACE: the first N (0 to 60) AHEAD, if that was its GOAL, by which it is there; none.");
        for (int day = 39; day <= 61; day++) {
            LaceBonds x = Kit.lawOf(Kit.land("person 0 pace 1 at 0;goal 0 7"), "slow 1 if day < " + day);
            Kit.is("19 places from day " + day, x.comes(0, 19), day + 19 <= 60 ? day + 19 : -1);
            Kit.is("1 place from day " + day, x.comes(0, 1), day + 1 <= 60 ? day + 1 : -1);
            Kit.is("none to go", x.comes(0, 0), 0);
        }
    }

    private static void soonest() {
        Kit.sentence("SOONEST to a PLACE: who COMES first (of several the least; none).");
        Kit.is("all alike", Kit.land(SIX).soonest(19), 0);
        Kit.is("the last is there", Kit.land("person 0 pace 9 at 0;person 0 pace 9 at 0;person 0 pace 1 at 9").soonest(9), 2);
        Kit.is("two are there", Kit.land("person 0 pace 9 at 0;person 0 pace 1 at 9;person 0 pace 1 at 9").soonest(9), 1);
        LaceBonds x = Kit.lawOf(Kit.land(SIX), "slow 1 if day < 59 or who < 5");
        Kit.is("one alone, by 60", x.soonest(1), 5);
        Kit.is("none by 60", x.soonest(2), -1);
        Kit.is("all are there", x.soonest(0), 0);
    }

    private static void carry() {
        Kit.sentence("each to another one of these, so that COMES of all, each by itself, are the least together");
        LaceBonds x = Kit.land(SIX);
        carry(x, 0, new int[] {0, 1, 2, 3, 4, 5}, 0, 0, 0, 0, 0, 0);
        carry(x, 114, new int[] {0, 1, 2, 3, 4, 5}, 19, 19, 19, 19, 19, 19);
        carry(x, 35, new int[] {0, 1, 2, 3, 4, 5}, 0, 5, 8, 19, 2, 1);
        Kit.lawOf(x, "slow 1 if who < 5");
        carry(x, 19, new int[] {0, 1, 2, 4, 5, 3}, 0, 0, 0, 19, 0, 0);
        carry(x, -1, new int[] {-1, -1, -1, -1, -1, -1}, 0, 0, 0, 19, 0, 1);
        LaceBonds late = Kit.lawOf(Kit.land("person 0 pace 1 at 0;person 0 pace 1 at 0"), "slow 1 if day < 50");
        carry(late, 120, new int[] {0, 1}, 10, 10);
        carry(late, -1, new int[] {-1, -1}, 10, 11);
        carry(late, 60, new int[] {0, 1}, 10, 0);
        carry(late, 0, new int[] {0, 1}, 0, 0);
    }

    private static void carry(LaceBonds x, int much, int[] ways, int... places) {
        Kit.tape(x, places);
        Kit.is("carry to " + java.util.Arrays.toString(places), x.carry(-1), much);
        for (int p = 0; p < ways.length; p++) {
            Kit.tape(x, places);
            Kit.is("carry of " + p + " to " + java.util.Arrays.toString(places), x.carry(p), ways[p]);
        }
    }

    private static void rings() {
        Kit.sentence("RINGS: how many sets of PLEDGED LACES (one at least) there are");
        ring(purses(0, 0, 0), 0, 0);
        ring(tell(purses(0, 0, 0), pledge(0, 1, 5, 9)), 0, 0);
        ring(tell(purses(0, 0, 0), pledge(0, 1, 5, 9), pledge(2, 0, 5, 9)), 1, 5);
        ring(tell(purses(0, 0, 0), pledge(0, 1, 5, 9), pledge(2, 0, 6, 9)), 0, 0);
        ring(tell(purses(0, 0, 0), pledge(0, 1, 5, 9), pledge(2, 0, 4, 9)), 0, 0);
        ring(tell(purses(0, 0, 0), pledge(0, 1, 999, 9), pledge(2, 2, 999, 9), pledge(4, 0, 999, 9)), 1, 21);
        ring(tell(purses(0, 0, 0), pledge(0, 1, 999, 9), pledge(1, 1, 998, 9), pledge(2, 0, 998, 9), pledge(3, 0, 999, 9)), 3, 15);
        LaceBonds lost = tell(purses(0, 0, 0), pledge(0, 1, 5, 1), pledge(2, 0, 5, 9));
        ring(lost, 1, 5);
        lost.days(2);
        Kit.is("lost", lost.rail(), 1);
        ring(lost, 0, 0);
        Kit.sentence("UNTIE: such a set of the most LACES (of several the least as bits; 0 without); how many.");
        ring(tell(purses(0, 0, 0), pledge(1, 1, 5, 9), pledge(0, 1, 5, 9), pledge(2, 0, 5, 9)), 2, 5);
        ring(tell(purses(0, 0, 0), pledge(1, 2, 5, 9), pledge(0, 1, 5, 9), pledge(2, 0, 5, 9), pledge(4, 0, 5, 9)), 3, 23);
    }

    private static void ring(LaceBonds x, int many, int best) {
        Kit.is("rings", x.rings(), many);
        Kit.is("untie", x.untie(false), best);
        Kit.is("untie, how many", x.untie(true), Integer.bitCount(best));
    }

    private static void leads() {
        Kit.sentence("LEADS: all whom one owes so, as bits (oneself, too, if it comes round).");
        LaceBonds x = Kit.land(SIX);
        for (int p = 5; p > 0; p--) {
            tell(x, pledge(2 * p + 1, p - 1, 1, 900));
        }
        for (int p = 0; p < 6; p++) {
            Kit.is("a row from " + p, x.leads(p), (1 << p) - 1);
            for (int q = 0; q < 6; q++) {
                if (p != q) {
                    Kit.is(p + " owes " + q, x.owes(p, q), q < p);
                }
            }
        }
        tell(x, pledge(0, 5, 1, 1));
        for (int p = 0; p < 6; p++) {
            Kit.is("round from " + p, x.leads(p), 63);
        }
        x.days(2);
        Kit.is("a lost one leads nowhere", x.rail() * 1000 + x.leads(0), 1000);
        Kit.is("the row is as it was", x.leads(5), 31);
        LaceBonds two = tell(purses(0, 0, 0), pledge(0, 1, 1, 9), pledge(2, 0, 1, 9));
        Kit.is("two owe one another", two.leads(0) * 10 + two.leads(1), 33);
        Kit.is("the third is led to by none", two.leads(2), 0);
        LaceBonds forth = Kit.land(SIX);
        for (int p = 0; p < 5; p++) {
            tell(forth, pledge(2 * p, p + 1, 1, 900));
        }
        Kit.is("the other way", forth.leads(0), 62);
        Kit.is("to the very end", forth.owes(0, 5), true);
        Kit.is("not back", forth.owes(5, 0), false);
    }

    private static void calls() {
        Kit.sentence("(AMOUNTS of each owner's, together, PURSE at most)");
        for (int purse : new int[] {0, 3, 4, 5, 6, 8, 9, 10, 999}) {
            LaceBonds x = tell(purses(0, purse), pledge(2, 0, 4, 9), pledge(3, 0, 5, 9));
            Kit.is("4 and 5 of " + purse, x.call(0, true), purse >= 9 ? 9 : purse >= 5 ? 5 : purse >= 4 ? 4 : 0);
            Kit.is("which of " + purse, x.call(0, false), purse >= 9 ? 12 : purse >= 5 ? 8 : purse >= 4 ? 4 : 0);
        }
        Kit.sentence("with AMOUNTS the most together: of several the least as bits; how much.");
        Kit.is("two alike", tell(purses(0, 5), pledge(2, 0, 5, 9), pledge(3, 0, 5, 9)).call(0, false), 4);
        Kit.is("each owner for itself", tell(purses(0, 5, 7), pledge(2, 0, 5, 9), pledge(3, 0, 5, 9), pledge(4, 0, 8, 9), pledge(5, 0, 7, 9)).call(0, false), 36);
        LaceBonds x = tell(purses(0, 9, 0), pledge(2, 0, 5, 1), pledge(3, 2, 5, 9), pledge(4, 0, 5, 1));
        Kit.is("not what others hold", x.call(0, false), 4);
        Kit.is("of the other", x.call(2, false), 8);
        x.days(2);
        Kit.is("not what is back or lost", x.call(0, false) + x.call(0, true), 0);
    }

    private static void breaks() {
        Kit.sentence("BREAK by N DAYS (0 to 60): LACES that are LOST then AHEAD and are not now, as bits.");
        LaceBonds x = tell(purses(0, 0), pledge(0, 1, 1, 59), pledge(1, 1, 1, 60), pledge(2, 0, 1, 1), "day 0");
        Kit.is("by 0", x.breaks(0), 0);
        Kit.is("by 1", x.breaks(1), 0);
        Kit.is("by 2", x.breaks(2), 4);
        Kit.is("by 59", x.breaks(59), 4);
        Kit.is("by 60", x.breaks(60), 5);
        x.days(2);
        Kit.is("lost now", x.rail(), 4);
        Kit.is("by 0 from there", x.breaks(0), 0);
        Kit.is("by 60 from there", x.breaks(60), 3);
        Kit.is("nobody falls by then", Kit.lawOf(tell(purses(5, 0), pledge(0, 1, 5, 3), "goal 0 9"), "fall 99;fall 1").breaks(60), 0);
    }

    private static void mercy() {
        Kit.sentence("by how many DAYS (0 to 30) its TERM must be told later at least (9999 at most), all else as it is, so that it is not LOST 60 DAYS AHEAD; none.");
        // From DAY 0 the 60th day ahead is DAY 59, so a TERM of 60 is far enough.
        for (int term = 28; term <= 62; term++) {
            LaceBonds x = tell(purses(0, 0), pledge(0, 1, 1, term));
            Kit.is("till " + term, x.mercy(0), term >= 60 ? 0 : term >= 30 ? 60 - term : -1);
        }
        // Another LACE is paid on DAY 20, so from then on there is enough.
        for (int term : new int[] {1, 10, 19, 20, 21}) {
            LaceBonds x = tell(purses(0, 5, 0), pledge(0, 2, 5, term), pledge(2, 0, 5, 20));
            int needed = term > 20 ? 0 : 21 - term;
            Kit.is("paid from 21 on, till " + term, x.mercy(0), needed);
        }
        LaceBonds last = tell(purses(0, 1), "day 999");
        for (int i = 0; i < 149; i++) {
            last.days(60);
        }
        last.days(41);
        Kit.is("day", last.count(3), 9980);
        last.lend(1, 0, 1, 1, 9999);
        Kit.is("till the last day, of which there are many", last.mercy(0), -1);
        last.undo();
        last.undo();
        Kit.is("60 days earlier and less", last.count(3), 9939);
        last.lend(1, 0, 1, 1, 9990);
        Kit.is("9999 is just beyond 60 days", last.mercy(0), 9);
        last.days(1);
        Kit.is("and a day later is not", last.mercy(0), -1);
    }

    private static void trust() {
        Kit.sentence("TRUST: the one on whom the most AMOUNT hangs together (of several the least; none without).");
        Kit.is("none pledged", purses(0, 0, 0).trust(), -1);
        Kit.is("no surety", tell(purses(0, 0, 0), pledge(0, 1, 5, 9)).trust(), -1);
        Kit.is("one of 1", tell(purses(0, 0, 0), pledge(0, 1, 1, 9) + " by 2").trust(), 2);
        Kit.is("two alike", tell(purses(0, 0, 0, 0), pledge(0, 1, 5, 9) + " by 3", pledge(4, 3, 5, 9) + " by 1").trust(), 1);
        Kit.is("1 more", tell(purses(0, 0, 0, 0), pledge(0, 1, 6, 9) + " by 3", pledge(4, 3, 5, 9) + " by 1").trust(), 3);
        Kit.is("together", tell(purses(0, 0, 0, 0), pledge(0, 1, 3, 9) + " by 3", pledge(1, 1, 3, 9) + " by 3", pledge(4, 3, 5, 9) + " by 1").trust(), 3);
        Kit.is("hangs", tell(purses(0, 0, 0, 0), pledge(0, 1, 3, 9) + " by 3", pledge(1, 1, 3, 9) + " by 3").hangs(3), 3);
        Kit.is("on the first", tell(purses(0, 0, 0), pledge(5, 1, 3, 9) + " by 0").hangs(0), 32);
        LaceBonds gone = tell(purses(0, 0, 5), pledge(0, 1, 3, 1) + " by 2", pledge(2, 0, 9, 1) + " by 2");
        gone.days(2);
        Kit.is("one is lost, one is back: nothing hangs", gone.hangs(2) * 10 + gone.rail(), 4);
        Kit.is("none without", gone.trust(), -1);
    }

    private static void needed() {
        Kit.sentence("NEEDED: the fewest PEOPLE so that of each PLEDGED LACE owner, HOLDER or SURETY is among them: of several the least as bits.");
        Kit.is("none pledged", Kit.land(SIX).needed(), 0);
        Kit.is("owner or holder", tell(purses(0, 0, 0), pledge(4, 1, 5, 9)).needed(), 2);
        Kit.is("surety", tell(purses(0, 0, 0), pledge(4, 1, 5, 9) + " by 0").needed(), 1);
        LaceBonds three = tell(Kit.land(SIX), pledge(0, 1, 5, 9), pledge(4, 3, 5, 9), pledge(8, 5, 5, 9));
        Kit.is("three apart", three.needed(), 21);
        tell(three, pledge(11, 3, 5, 9));
        Kit.is("one of them must be the holder", three.needed(), 25);
        LaceBonds all = Kit.land(SIX);
        for (int p = 0; p < 6; p++) {
            tell(all, pledge(2 * p, (p + 1) % 6, 1, 9), pledge(2 * p + 1, (p + 2) % 6, 1, 9));
        }
        Kit.is("of a ring of six with steps of 1 and 2 four", all.needed(), 27);
    }

    private static void wear() {
        Kit.sentence("sets of PEOPLE that fit: how many; SURE: those in all, as bits (0 without)");
        LaceBonds x = Kit.land(SIX);
        int[] choose = {1, 6, 15, 20, 15, 6, 1};
        for (int many = 0; many <= 7; many++) {
            wear(x, many < 7 ? choose[many] : 0, many == 6 ? 63 : 0, 0, 5, many);
        }
        wear(x, 0, 0, 0, 5, 255);
        wear(x, 64, 0);
        Kit.sentence("(from one to another, by numbers, both too)");
        wear(x, 16, 12, 2, 3, 2);
        wear(x, 32, 32, 5, 5, 1);
        wear(x, 32, 0, 5, 5, 0);
        wear(x, 32, 1, 0, 0, 1);
        wear(x, 0, 0, 5, 5, 2);
        wear(x, 0, 0, 0, 0, 1, 0, 0, 0);
        Kit.sentence("at most 36 bytes");
        int[] rows = new int[36];
        for (int i = 0; i < 12; i++) {
            rows[3 * i] = i % 6;
            rows[3 * i + 1] = i % 6;
            rows[3 * i + 2] = i % 2;
        }
        wear(x, 1, 42, rows);
        Kit.tape(x, java.util.Arrays.copyOf(rows, 39));
        Kit.refuses("39 bytes", Kit.ARGUMENT, () -> x.wear(false));
    }

    private static void wear(LaceBonds x, int many, int sure, int... rows) {
        Kit.tape(x, rows);
        Kit.is("wear " + java.util.Arrays.toString(rows), x.wear(false), many);
        Kit.tape(x, rows);
        Kit.is("sure " + java.util.Arrays.toString(rows), x.wear(true), sure);
    }

    private static void look() {
        Kit.sentence("so that the greater part is the least (of several the least; none with fewer than two)");
        LaceBonds x = Kit.land(SIX);
        look(x, 0);
        look(x, -1, 0, 5, 7);
        look(x, -1, 0, 5, 6);
        look(x, -1, 0, 5, 0);
        look(x, 0, 0, 5, 3);
        look(x, 0, 0, 5, 1);
        look(x, 0, 0, 5, 5);
        look(x, 5, 0, 4, 5);
        look(x, 5, 0, 4, 1);
        look(x, 4, 0, 3, 4, 4, 5, 1);
    }

    private static void look(LaceBonds x, int due, int... rows) {
        Kit.tape(x, rows);
        Kit.is("look " + java.util.Arrays.toString(rows), x.look(), due);
    }

    private static void races() {
        Kit.sentence("PAIRS: the most races of two at once between PEOPLE who walk alike.");
        for (int many = 0; many <= 6; many++) {
            LaceBonds x = purses(new int[many]);
            Kit.is(many + " alike", x.pairs(), many / 2);
            for (int p = 0; p < many; p++) {
                Kit.is("race of " + p + " of " + many, x.race(p), (1 << many) - 1 - (1 << p));
            }
        }
        Kit.is("three and three", Kit.lawOf(Kit.land(SIX), "slow 1 if who < 3").pairs(), 2);
        Kit.is("who walk by 0 walk alike", Kit.lawOf(Kit.land("person 0 pace 1 at 0;person 0 pace 9 at 0"), "slow 9").pairs(), 1);
        Kit.is("none alike", Kit.land("person 0 pace 1 at 0;person 0 pace 9 at 0;person 0 pace 2 at 0").pairs(), 0);
    }

    private static void lends() {
        Kit.sentence("LENDS of an amount (1 to 999): PEOPLE whose PURSE is that at least, if somebody else has a LACE in its shoe, as bits.");
        LaceBonds x = purses(0, 1, 998, 999);
        Kit.is("1", x.lends(1), 14);
        Kit.is("2", x.lends(2), 12);
        Kit.is("998", x.lends(998), 12);
        Kit.is("999", x.lends(999), 8);
        Kit.is("nobody else", purses(999).lends(1), 0);
        LaceBonds two = tell(purses(9, 9), pledge(2, 0, 1, 1), pledge(3, 0, 100, 1));
        Kit.is("only the own ones are in their shoes", two.lends(1), 2);
        two.days(2);
        Kit.is("one is back", two.rail() * 10 + two.lends(1), 83);
        LaceBonds none = tell(purses(9, 9), pledge(2, 0, 99, 1), pledge(3, 0, 99, 1));
        Kit.is("pledged ones are not in their shoes", none.lends(1), 2);
        none.days(2);
        Kit.is("nor lost ones", none.lends(1), 2);
    }

    private static void loose() {
        Kit.sentence("LOOSE for one: the least that it must pay so that SLACK is less by one (none, if no LACE of it is PLEDGED).");
        Kit.is("none", purses(9, 9).loose(0), -1);
        Kit.is("left", tell(purses(9, 9), pledge(2, 0, 999, 9)).loose(1), 999);
        Kit.is("right", tell(purses(9, 9), pledge(3, 0, 1, 9)).loose(1), 1);
        Kit.is("left is less", tell(purses(9, 9), pledge(2, 0, 5, 9), pledge(3, 0, 6, 9)).loose(1), 5);
        Kit.is("right is less", tell(purses(9, 9), pledge(2, 0, 6, 9), pledge(3, 0, 5, 9)).loose(1), 5);
        Kit.is("alike", tell(purses(9, 9), pledge(2, 0, 6, 9), pledge(3, 0, 6, 9)).loose(1), 6);
        LaceBonds x = tell(purses(9, 0), pledge(2, 0, 5, 1), pledge(3, 0, 6, 9));
        x.days(2);
        Kit.is("the left one is lost", x.loose(1), 6);
        x.days(9);
        Kit.is("both are lost", x.rail() * 10 + x.loose(1), 119);
        Kit.is("of others it counts nothing", x.loose(0), -1);
    }

    private static void trials() {
        Kit.sentence("TRIAL of N DAYS (0 to 60) from now (draws, too; nothing stays): falls; LOST LACES then, as bits.");
        String land = "person 900 pace 1 at 0;person 300 pace 1 at 19;goal 0 19;goal 1 0;fine 9;pledge 0 to 1 for 850 knot 0 till 40;pledge 3 to 0 for 250 knot 0 till 9";
        for (int n = 0; n <= 60; n++) {
            LaceBonds x = Kit.lawOf(Kit.land(land), "fall 30;fall 20 if tired > 3");
            x.seed(n * 12345);
            String before = Kit.all(x);
            int falls = x.trial(n, false);
            int lost = x.trial(n, true);
            Kit.is("nothing stays of " + n, Kit.all(x), before);
            Kit.is("falls by " + n, falls, n == 0 ? 0 : x.days(n));
            Kit.is("lost by " + n, lost, x.rail());
        }
    }

    private static void spans() {
        Kit.sentence("SPAN: the fewest and the most falls from SEED 1, 2, .. 6.");
        for (int by = 0; by <= 99; by++) {
            LaceBonds x = Kit.lawOf(Kit.land("person 9 pace 1 at 0;goal 0 19"), "fall " + by);
            int least = 1;
            int most = 0;
            for (int seed = 1; seed <= 6; seed++) {
                x.seed(seed);
                least = Math.min(least, x.trial(1, false));
                most = Math.max(most, x.trial(1, false));
            }
            x.seed(by);
            Kit.is("the fewest of one day by " + by, x.span(1, false), least);
            Kit.is("the most of one day by " + by, x.span(1, true), most);
            Kit.is("the seed stays", x.seed(0), by);
        }
        LaceBonds all = Kit.lawOf(Kit.land("person 9 pace 1 at 0;goal 0 19"), "fall 99;fall 1");
        Kit.is("60 days", all.span(60, false) * 100 + all.span(60, true), 6060);
        Kit.is("1 day", all.span(1, false) * 100 + all.span(1, true), 101);
        Kit.is("0 days", all.span(0, false) * 100 + all.span(0, true), 0);
        all.days(9);
        Kit.is("falls of earlier days are not among them", all.span(60, true), 60);
    }

    private static void led() {
        Kit.sentence("LED: how many rows of THE LOG are of a LACE; the DAY of the latest (none).");
        LaceBonds x = tell(purses(9, 9), "day 7");
        for (int l = 0; l < 4; l++) {
            Kit.is("none", x.led(l, false), 0);
            Kit.is("no day", x.led(l, true), -1);
        }
        x.lend(0, 3, 1, 0, 999);
        x.days(3);
        x.pay(3);
        Kit.is("two", x.led(3, false), 2);
        Kit.is("the latest", x.led(3, true), 10);
        for (int l = 0; l < 3; l++) {
            Kit.is("none of another", x.led(l, false), 0);
            Kit.is("no day of another", x.led(l, true), -1);
        }
        x.undo();
        Kit.is("one", x.led(3, false), 1);
        Kit.is("the latest then", x.led(3, true), 7);
    }

    private static void lawParts() {
        Kit.sentence("held: how many LACES of others it holds; place, mud: its PLACE, and MUD of that; even: SLACK is 0 or 2; there: it is at its GOAL.");
        LaceBonds x = tell(Kit.land(SIX), pledge(2, 0, 1, 1), pledge(4, 0, 1, 900), pledge(5, 0, 1, 1), "mud 0 9");
        x.days(2);
        Kit.is("two are lost", x.rail(), 36);
        for (int held = 0; held <= 4; held++) {
            Kit.lawOf(x, "fall 7 if held > " + held);
            Kit.is("held above " + held, x.walks(0, 1), held < 3 ? 7 : 0);
        }
        for (int slack = 0; slack <= 2; slack++) {
            Kit.lawOf(x, "fall 7 if slack < " + (slack + 1) + " and slack + 1 > " + slack + ";fall 50 if even");
            for (int p = 0; p <= 2; p++) {
                Kit.is("slack " + slack + " of one with " + p, x.walks(p, 1), (slack == p ? 7 : 0) + (p != 1 ? 50 : 0));
            }
        }
        Kit.lawOf(x, "fall 7 if mud > 8;fall 50 if place < 1;fall 20 if there");
        Kit.is("mud 9 at 0, and there", x.walks(5, 1), 77);
        x.goal(5, 19);
        Kit.is("not there", x.walks(5, 1), 57);
    }
}
