/** Promises 10 to 18, 44 to 48: each edge that the document names of a DAY, of the ACTS, of THE LOG and of what is remembered. */
public final class EdgeDayTest {
    private static final int[] SEEDS = {0, 1, 2, 3, 6, 7, 77, -1, -2, 65535, 65536, 1 << 30, Integer.MAX_VALUE, Integer.MIN_VALUE, -987654321, 1103515245};
    private static final String TWO_POOR = "person 0 pace 1 at 0;person 0 pace 1 at 0;";

    public static void main(String[] args) {
        purseAtZero();
        tiredAtNine();
        walksAtZero();
        fallsAtHundred();
        fallsWithoutText();
        noFarther();
        noDrawAtGoal();
        seedGoesRound();
        drawJustBelow();
        ahead();
        amountAtMost();
        allGrow();
        terms();
        whoPays();
        holderAtMost();
        ownersAtMost();
        lastDay();
        aheadOfLastDay();
        actsThatChangeNothing();
        sixtyRows();
        daysMakeRows();
        twelveActs();
        forgetting();
        images();
        Kit.close("EdgeDayTest");
    }

    /** SEED is 1103515245 times SEED and 12345, with longs, cut to 32 bits at the end. */
    private static int seedBehind(int seed) {
        return (int) ((1103515245L * seed + 12345L) & 0xFFFFFFFFL);
    }

    private static int drawOf(int seed) {
        return (int) ((seedBehind(seed) & 0xFFFFFFFFL) / 65536 % 32768) % 100;
    }

    /** Who is not at its GOAL falls every DAY. */
    private static LaceBonds falling(String land) {
        return Kit.lawOf(Kit.land(land), "fall 99;fall 1");
    }

    private static void purseAtZero() {
        Kit.sentence("PURSE is FINE less (0 at least), TIRED is 1 more (9 at most), it stays");
        for (int fine : new int[] {0, 1, 5, 98, 99}) {
            for (int purse : new int[] {0, 1, fine - 1, fine, fine + 1, 998, 999}) {
                if (purse >= 0) {
                    LaceBonds x = falling("person " + purse + " pace 9 at 3;goal 0 9;fine " + fine);
                    Kit.is("falls", x.days(1), 1);
                    Kit.is(purse + " less " + fine, x.person(0, 0), purse > fine ? purse - fine : 0);
                    Kit.is("it stays", x.person(0, 2), 3);
                }
            }
        }
        LaceBonds x = falling("person 11 pace 9 at 3;goal 0 9");
        x.days(2);
        Kit.is("5 at first, twice", x.person(0, 0), 1);
        x.days(60);
        Kit.is("0 stays 0", x.person(0, 0), 0);
    }

    private static void tiredAtNine() {
        Kit.sentence("TIRED 0 to 9 (0 at first)");
        LaceBonds x = falling("person 11 pace 9 at 3;goal 0 9");
        Kit.is("at first", x.person(0, 4), 0);
        for (int n = 1; n <= 12; n++) {
            Kit.is("falls", x.days(1), 1);
            Kit.is("tired behind " + n, x.person(0, 4), n < 9 ? n : 9);
        }
        Kit.sentence("one rests: TIRED is 0");
        Kit.is("it was 9", x.rest(0), 9);
        Kit.is("it is 0", x.person(0, 4), 0);
        Kit.is("it was 0", x.rest(0), 0);
        x.days(60);
        Kit.is("9 in one go", x.person(0, 4), 9);
        Kit.is("all falls are counted", x.count(8), 72);
    }

    private static void walksAtZero() {
        Kit.sentence("PACE less the sum of N of all slow LINES that hold, 0 at least (without a text: PACE less 2 for each SLACK)");
        String pledges = ";pledge 0 to 2 for 1 knot 0 till 999;pledge 2 to 2 for 1 knot 0 till 999;pledge 3 to 2 for 1 knot 0 till 999";
        for (int pace = 1; pace <= 9; pace++) {
            String one = "person 0 pace " + pace + " at 0";
            LaceBonds x = Kit.land(one + ";" + one + ";" + one + pledges);
            Kit.is("slack 0 of " + pace, x.walks(2, 0), pace);
            Kit.is("slack 1 of " + pace, x.walks(0, 0), pace > 2 ? pace - 2 : 0);
            Kit.is("slack 2 of " + pace, x.walks(1, 0), pace > 4 ? pace - 4 : 0);
            for (int n : new int[] {0, pace - 1, pace, pace + 1, 99}) {
                Kit.lawOf(x, "slow " + n + ";slow 50 if who > 2");
                Kit.is(pace + " slowed by " + n, x.walks(1, 0), n < pace ? pace - n : 0);
            }
            Kit.lawOf(x, "slow 99;slow 99;slow 99;slow 99;slow 99;slow 99;slow 99;slow 99;slow 99;slow 99;slow 99;slow 99");
            Kit.is("far below 0", x.walks(1, 0), 0);
        }
    }

    private static void fallsAtHundred() {
        Kit.sentence("the sum of N of all fall LINES, 100 at most");
        LaceBonds x = Kit.land("person 9 pace 1 at 0");
        fallsBy(x, "fall 0", 0);
        fallsBy(x, "fall 99", 99);
        fallsBy(x, "fall 98;fall 1", 99);
        fallsBy(x, "fall 99;fall 1", 100);
        fallsBy(x, "fall 99;fall 2", 100);
        fallsBy(x, "fall 99;fall 99", 100);
        fallsBy(x, "fall 99;fall 99;fall 99;fall 99;fall 99;fall 99;fall 99;fall 99;fall 99;fall 99;fall 99;fall 99", 100);
        fallsBy(x, "fall 99;fall 99 if who > 0", 99);
        fallsBy(x, "slow 99;grow 99", 0);
    }

    private static void fallsBy(LaceBonds x, String law, int due) {
        Kit.lawOf(x, law);
        Kit.is("falls by " + law, x.walks(0, 1), due);
    }

    private static void fallsWithoutText() {
        Kit.sentence("(without a text: 10 for each SLACK)");
        for (int slack = 0; slack <= 2; slack++) {
            String land = "person 9 pace 9 at 0;person 9 pace 9 at 0;goal 0 19";
            for (int l = 0; l < slack; l++) {
                land += ";pledge " + l + " to 1 for 9 knot 0 till 999";
            }
            Kit.is("falls by", Kit.land(land).walks(0, 1), 10 * slack);
            for (int seed = 0; seed < 60; seed++) {
                LaceBonds x = Kit.land(land);
                x.seed(seed);
                Kit.is("slack " + slack + " by seed " + seed, x.days(1), drawOf(seed) < 10 * slack ? 1 : 0);
            }
        }
    }

    private static void noFarther() {
        Kit.sentence("else it goes as many PLACES toward its GOAL as it WALKS by (no farther)");
        for (int pace : new int[] {1, 2, 8, 9}) {
            for (int from : new int[] {0, 1, 9, 18, 19}) {
                for (int goal = 0; goal <= 19; goal++) {
                    LaceBonds x = Kit.land("person 9 pace " + pace + " at " + from + ";goal 0 " + goal);
                    x.days(1);
                    int left = Math.max(0, Math.abs(goal - from) - pace);
                    Kit.is("from " + from + " to " + goal + " by " + pace, x.person(0, 2), goal > from ? goal - left : goal + left);
                }
            }
        }
        LaceBonds x = Kit.lawOf(Kit.land("person 9 pace 9 at 5;goal 0 19"), "slow 9");
        x.days(60);
        Kit.is("by 0 it stays", x.person(0, 2), 5);
    }

    private static void noDrawAtGoal() {
        Kit.sentence("(No DRAW for one who is at its GOAL.)");
        LaceBonds x = Kit.lawOf(Kit.land("person 9 pace 9 at 5;person 9 pace 9 at 5;person 9 pace 9 at 5"), "slow 9");
        x.days(60);
        Kit.is("all are there", x.seed(1), 1);
        x.goal(1, 6);
        x.days(1);
        Kit.is("one is not, though it falls by 0 and walks by 0", x.seed(1), seedBehind(1));
        x.goal(0, 6);
        x.goal(2, 6);
        x.days(2);
        int seed = 1;
        for (int i = 0; i < 6; i++) {
            seed = seedBehind(seed);
        }
        Kit.is("three are not, on two days", x.seed(1), seed);
        LaceBonds y = Kit.land("person 9 pace 9 at 5;goal 0 6");
        y.days(60);
        Kit.is("who came is there from then on", y.seed(1), seedBehind(1));
    }

    private static void seedGoesRound() {
        Kit.sentence("SEED is 1103515245 times SEED and 12345, as an int that goes round; bits 16 to 30 (SEED 1 at first)");
        Kit.is("at first", new LaceBonds().seed(9), 1);
        LaceBonds x = Kit.lawOf(Kit.land("person 9 pace 9 at 5;goal 0 6"), "slow 9");
        int last = 1;
        for (int seed : SEEDS) {
            Kit.is("what it was", x.seed(seed), last);
            Kit.is("as it was told", x.seed(seed), seed);
            x.days(1);
            Kit.is("one draw from " + seed, x.seed(seed), seedBehind(seed));
            x.days(3);
            last = seedBehind(seedBehind(seedBehind(seed)));
        }
        Kit.is("below 0, too", seedBehind(3) < 0 || seedBehind(2) < 0 || seedBehind(1) < 0 || seedBehind(-1) < 0, true);
    }

    private static void drawJustBelow() {
        Kit.sentence("DRAW modulo 100 below what it FALLS by: it falls");
        for (int seed : SEEDS) {
            int draw = drawOf(seed);
            fallsOn(seed, "fall " + draw, 0);
            fallsOn(seed, "fall " + draw / 2 + ";fall " + (draw - draw / 2 + 1), 1);
        }
        int seed = 0;
        while (drawOf(seed) != 99) {
            seed++;
        }
        fallsOn(seed, "fall 99", 0);
        fallsOn(seed, "fall 99;fall 1", 1);
        while (drawOf(seed) != 0) {
            seed++;
        }
        fallsOn(seed, "fall 0", 0);
        fallsOn(seed, "fall 1", 1);
    }

    private static void fallsOn(int seed, String law, int due) {
        LaceBonds x = Kit.lawOf(Kit.land("person 9 pace 9 at 5;goal 0 19"), law);
        x.seed(seed);
        Kit.is(law + " from seed " + seed + ", tried", x.trial(1, false), due);
        Kit.is(law + " from seed " + seed, x.days(1), due);
        Kit.is("it stays, or goes", x.person(0, 2), due == 1 ? 5 : 14);
    }

    private static void ahead() {
        Kit.sentence("AHEAD by N DAYS (0 to 60): as so many DAYS on which nobody falls (no DRAWS).");
        String land = "person 40 pace 1 at 0;person 20 pace 2 at 19;goal 0 19;goal 1 0;pledge 0 to 1 for 1 knot 1 till 30;pledge 1 to 1 for 9 knot 0 till 59";
        for (int n = 1; n <= 60; n++) {
            LaceBonds x = Kit.lawOf(Kit.land(land), "slow 1 if slack > 1 and day > 25;fall 99;fall 1");
            LaceBonds y = Kit.lawOf(Kit.land(land), "slow 1 if slack > 1 and day > 25");
            y.days(n);
            for (int p = 0; p < 2; p++) {
                Kit.is("place of " + p + " by " + n, x.ahead(p, n, false), y.person(p, 2));
                Kit.is("purse of " + p + " by " + n, x.ahead(p, n, true), y.person(p, 0));
            }
            Kit.is("no draws", x.seed(1), 1);
        }
    }

    private static void amountAtMost() {
        Kit.sentence("AMOUNT is more by what it GROWS by (999 at most)");
        for (int amount : new int[] {1, 989, 990, 991, 998, 999}) {
            for (int knot : new int[] {0, 1, 8, 9}) {
                LaceBonds x = Kit.land(TWO_POOR + "pledge 0 to 1 for " + amount + " knot " + knot + " till 999");
                x.days(1);
                Kit.is(amount + " and " + knot, x.lace(0, 2), amount + knot > 999 ? 999 : amount + knot);
                x.days(1);
                Kit.is(amount + " and twice " + knot, x.lace(0, 2), amount + 2 * knot > 999 ? 999 : amount + 2 * knot);
            }
        }
        LaceBonds x = Kit.lawOf(Kit.land(TWO_POOR + "pledge 0 to 1 for 1 knot 9 till 1"),
                "grow 99;grow 99;grow 99;grow 99;grow 99;grow 99;grow 99;grow 99;grow 99;grow 99;grow 99;grow 99");
        Kit.is("grows by more than that", x.grows(0), 1197);
        x.days(1);
        Kit.is("at once", x.lace(0, 2), 999);
        x.days(1);
        Kit.is("lost for 999", x.log(0, 3), 999);
    }

    /** Each of the twelve LACES grows, by what its own PERSON is; what is in its shoe or LOST does not. */
    private static void allGrow() {
        Kit.sentence("(b) Each PLEDGED LACE, by numbers: AMOUNT is more by what it GROWS by");
        LaceBonds x = Kit.land("person 0 pace 1 at 0;person 0 pace 1 at 0;person 0 pace 1 at 0;person 0 pace 1 at 0;person 0 pace 1 at 0;person 0 pace 1 at 0");
        for (int l = 0; l < 12; l += 2) {
            String behind = " knot " + l % 10 + " till 999;pledge " + (l + 1) + " to " + (l < 2 ? 5 : 0) + " for " + (101 + l) + " knot " + (l + 1) % 10;
            Kit.text(x, "pledge " + l + " to " + (l < 2 ? 5 : 0) + " for " + (100 + l) + behind + " till 999");
            x.land();
        }
        Kit.lawOf(x, "grow 20 if who > 4;grow 30 if who < 1");
        x.days(1);
        for (int l = 0; l < 12; l++) {
            int grows = l % 10 + (l > 9 ? 20 : 0) + (l < 2 ? 30 : 0);
            Kit.is("grows by, " + l, x.grows(l), grows);
            Kit.is("grown, " + l, x.lace(l, 2), 100 + l + grows);
        }
        Kit.sentence("(2 to 4: 0, if it is not PLEDGED)");
        LaceBonds y = Kit.lawOf(Kit.land(TWO_POOR + "pledge 1 to 1 for 9 knot 9 till 1"), "grow 99");
        y.days(9);
        Kit.is("lost", y.rail(), 2);
        for (int l = 0; l < 4; l++) {
            for (int what = 2; what <= 4; what++) {
                Kit.is("lace " + l + " what " + what, y.lace(l, what), 0);
            }
            Kit.is("grows by, " + l, y.grows(l), 0);
        }
    }

    /** A TERM is due on its DAY, and on each later one. */
    private static void terms() {
        Kit.sentence("Each PLEDGED LACE, by numbers, whose TERM is DAY or earlier");
        for (int day = 0; day <= 12; day++) {
            LaceBonds x = Kit.land(TWO_POOR + "pledge 0 to 1 for 1 knot 0 till 10;day " + day);
            x.days(1);
            Kit.is("till 10 on " + day, x.lace(0, 0), day < 10 ? 1 : 2);
        }
        LaceBonds x = Kit.land(TWO_POOR + "pledge 0 to 1 for 1 knot 0 till 999;pledge 1 to 1 for 1 knot 0 till 1;day 998");
        x.days(1);
        Kit.is("on 998", x.rail(), 2);
        x.days(1);
        Kit.is("on 999", x.rail(), 3);
    }

    private static void whoPays() {
        Kit.sentence("its owner pays, if PURSE is AMOUNT at least; else its SURETY, if there is one whose PURSE is AMOUNT at least; else it is LOST");
        for (int owner : new int[] {0, 9, 10, 11}) {
            for (int by : new int[] {-1, 0, 9, 10, 11}) {
                LaceBonds x = Kit.land("person " + owner + " pace 1 at 0;person 0 pace 1 at 0;person " + Math.max(0, by)
                        + " pace 1 at 0;day 1;pledge 0 to 1 for 9 knot 1 till 1" + (by < 0 ? "" : " by 2"));
                x.days(1);
                String what = "owner with " + owner + ", surety with " + by;
                boolean first = owner >= 10;
                boolean second = !first && by >= 10;
                Kit.is(what + ": how", x.lace(0, 0), first || second ? 0 : 2);
                Kit.is(what + ": owner", x.person(0, 0), first ? owner - 10 : owner);
                Kit.is(what + ": surety", x.person(2, 0), second ? by - 10 : Math.max(0, by));
                Kit.is(what + ": holder", x.person(1, 0), first || second ? 10 : 0);
                Kit.is(what + ": row", x.log(0, 2) * 100 + x.log(0, 3), first || second ? 110 : 210);
                Kit.is(what + ": the keeper", x.lace(0, 1), first || second ? -1 : 1);
                Kit.is(what + ": nothing hangs", x.lace(0, 5), -1);
            }
        }
    }

    private static void holderAtMost() {
        Kit.sentence("Who pays has AMOUNT less, the HOLDER so much more (999 at most), the LACE is in its shoe.");
        for (int holder : new int[] {988, 989, 990, 998, 999}) {
            for (boolean act : new boolean[] {true, false}) {
                LaceBonds x = Kit.land("person 10 pace 1 at 0;person " + holder + " pace 1 at 0;pledge 0 to 1 for 10 knot 0 till 1;day 1");
                if (act) {
                    x.pay(0);
                } else {
                    x.days(1);
                }
                Kit.is(holder + " and 10", x.person(1, 0), holder + 10 > 999 ? 999 : holder + 10);
                Kit.is("10 less", x.person(0, 0), 0);
                Kit.is("in its shoe", x.lace(0, 0), 0);
            }
        }
    }

    private static void ownersAtMost() {
        Kit.sentence("(that PURSE is more, 999 at most)");
        for (int purse : new int[] {0, 988, 989, 990, 999}) {
            LaceBonds x = Kit.land("person 10 pace 1 at 0;person " + purse + " pace 1 at 0");
            Kit.is("the holder's", x.lend(0, 2, 10, 0, 9), 0);
            Kit.is(purse + " and 10 lent", x.person(1, 0), purse + 10 > 999 ? 999 : purse + 10);
        }
        Kit.sentence("(into that of the one before, 999 at most)");
        for (int purse : new int[] {0, 988, 989, 990, 999}) {
            LaceBonds x = Kit.land("person 0 pace 1 at 0;person " + purse + " pace 1 at 0;person 10 pace 1 at 0;pledge 0 to 1 for 10 knot 0 till 9");
            Kit.is("who held it", x.give(0, 2), 1);
            Kit.is(purse + " and 10 for it", x.person(1, 0), purse + 10 > 999 ? 999 : purse + 10);
            Kit.is("of that one's purse", x.person(2, 0), 0);
            Kit.is("nothing of the owner's", x.person(0, 0), 0);
        }
    }

    private static LaceBonds onDay(int day, String land) {
        LaceBonds x = Kit.land(land + ";day 999");
        while (x.count(3) < day) {
            x.days(Math.min(60, day - x.count(3)));
        }
        return x;
    }

    private static void lastDay() {
        Kit.sentence("DAY is 1 more (9999 at most).");
        LaceBonds x = onDay(9998, "person 10 pace 1 at 0;person 0 pace 1 at 0");
        x.lend(0, 2, 1, 0, 9998);
        x.lend(0, 3, 1, 0, 9999);
        x.days(1);
        Kit.is("9999", x.count(3), 9999);
        Kit.is("one is back", x.count(5), 8);
        x.days(1);
        Kit.is("9999 still", x.count(3), 9999);
        Kit.is("both are back", x.count(5), 0);
        Kit.is("on the last day", x.log(0, 0), 9999);
        Kit.is("on the day ahead of it", x.log(1, 0), 9998);
        x.days(60);
        Kit.is("for good", x.count(3), 9999);
        x.lend(0, 2, 1, 1, 9999);
        Kit.is("a row of the last day", x.log(0, 0) + x.led(2, true), 19998);
        Kit.lawOf(x, "slow 1 if day > 998 + 999 + 999 + 999 + 999 + 999 + 999 + 999 + 999 + 999 + 9");
        Kit.is("day is 9999 in the law", x.walks(0, 0), 0);
    }

    /** DAY 9999 comes as often as it is asked for, ahead as well. */
    private static void aheadOfLastDay() {
        Kit.sentence("DAY is 1 more (9999 at most).");
        LaceBonds x = onDay(9999, "person 10 pace 1 at 0;person 20 pace 1 at 0");
        x.lend(1, 0, 5, 0, 9999);
        Kit.is("paid ahead", x.breaks(60), 0);
        Kit.is("by its owner", x.ahead(0, 60, true), 10);
        Kit.is("to its holder", x.ahead(1, 60, true), 20);
        x.lend(0, 3, 15, 9, 9999);
        Kit.is("nothing is left for lace 0", x.breaks(1), 1);
        Kit.is("no term is later than that", x.mercy(0), -1);
        Kit.is("lace 3 is paid", x.mercy(3), 0);
        Kit.is("tried", x.trial(60, true), 1);
    }

    private static void actsThatChangeNothing() {
        Kit.sentence("DAYS (each also if it changes nothing)");
        LaceBonds x = Kit.land("person 10 pace 1 at 0;person 10 pace 1 at 0;person 10 pace 1 at 0;pledge 0 to 1 for 9 knot 0 till 999");
        x.goal(0, 0);
        Kit.is("the same goal", x.count(10), 1);
        x.rest(0);
        Kit.is("rest of one who is not tired", x.count(10), 2);
        x.surety(0, -1);
        Kit.is("none as before", x.count(10), 3);
        x.surety(0, 2);
        x.surety(0, 2);
        Kit.is("the same surety", x.count(10), 5);
        LaceBonds nobody = new LaceBonds();
        nobody.days(1);
        Kit.is("a day of nobody", nobody.count(10), 1);
        Kit.is("undone", nobody.undo(), true);
        Kit.is("its day, too", nobody.count(3), 0);
    }

    private static void sixtyRows() {
        Kit.sentence("THE LOG: the latest 60 LACES that went");
        LaceBonds x = Kit.land("person 999 pace 1 at 0;person 0 pace 1 at 0");
        for (int n = 1; n <= 65; n++) {
            went(x, n);
            Kit.is("rows", x.count(9), Math.min(n, 60));
            Kit.is("led", x.led(2, false), Math.min(n, 60));
            Kit.is("the latest", x.log(0, 3), n % 2 == 1 ? n : n - 1);
            int first = Math.max(1, n - 59);
            Kit.is("the first of them", x.log(Math.min(n, 60) - 1, 3), first % 2 == 1 ? first : first - 1);
            Kit.is("none behind it", x.log(Math.min(n, 60), 3), -1);
        }
        LaceBonds y = Kit.land("person 999 pace 1 at 0;person 0 pace 1 at 0");
        for (int n = 1; n <= 65; n++) {
            went(y, n);
        }
        for (int ago = 0; ago < 60; ago++) {
            int n = 65 - ago;
            Kit.is("row " + ago, y.log(ago, 2) * 100 + y.log(ago, 3), n % 2 == 1 ? n : 100 + n - 1);
        }
        Kit.is("no 61st", y.log(60, 0), -1);
        y.undo();
        Kit.is("60 rows as ahead of it", y.count(9), 60);
        Kit.is("the first as ahead of it", y.log(59, 3), 5);
    }

    /** LACE 2 goes for the n-th time: on and off by turns. */
    private static void went(LaceBonds x, int n) {
        if (n % 2 == 1) {
            x.lend(0, 2, n, 0, 999);
        } else {
            x.pay(2);
        }
    }

    /** A DAY on which several LACES go makes their rows by their numbers, also where the 61st comes in between. */
    private static void daysMakeRows() {
        LaceBonds x = Kit.land("person 999 pace 1 at 0;person 0 pace 1 at 0");
        for (int n = 1; n <= 58; n++) {
            if (n % 2 == 1) {
                x.lend(0, 2, 1, 0, 999);
            } else {
                x.pay(2);
            }
        }
        Kit.text(x, "pledge 0 to 1 for 2 knot 0 till 1;pledge 1 to 1 for 3 knot 0 till 1;pledge 2 to 0 for 4 knot 0 till 1;pledge 3 to 0 for 5 knot 0 till 1");
        x.land();
        Kit.is("a text makes none", x.count(9), 58);
        x.days(2);
        Kit.is("60", x.count(9), 60);
        for (int ago = 0; ago < 4; ago++) {
            Kit.is("row " + ago, x.log(ago, 0) * 1000 + x.log(ago, 1) * 100 + x.log(ago, 2) * 10 + x.log(ago, 3), new int[] {1325, 1214, 1113, 1012}[ago]);
        }
        Kit.is("led by lace 2", x.led(2, false), 57);
        Kit.is("the first two are gone", x.log(59, 2) * 10 + x.log(58, 2), 1);
    }

    private static void twelveActs() {
        Kit.sentence("(12 are remembered; DAYS of one call are one)");
        LaceBonds x = Kit.land("person 999 pace 1 at 0");
        for (int n = 1; n <= 30; n++) {
            x.days(60);
            Kit.is("acts", x.count(10), Math.min(n, 12));
        }
        for (int n = 29; n >= 18; n--) {
            Kit.is("undo", x.undo(), true);
            Kit.is("60 days at once", x.count(3), 60 * n);
            Kit.is("left", x.count(10), n - 18);
        }
        Kit.is("no 13th", x.undo(), false);
        Kit.is("and nothing happens", x.count(3), 18 * 60);
        for (int n = 0; n < 12; n++) {
            x.days(1);
        }
        x.undo();
        x.days(2);
        x.days(3);
        Kit.is("12 again", x.count(10), 12);
        for (int n = 0; n < 12; n++) {
            x.undo();
        }
        Kit.is("the first of these was forgotten", x.count(3), 18 * 60 + 1);
        Kit.is("none is left", x.undo(), false);
    }

    private static void forgetting() {
        Kit.sentence("A text, going back: none are remembered.");
        LaceBonds x = Kit.land("person 999 pace 1 at 0");
        x.goal(0, 5);
        Kit.reads(x, true, "", 2);
        Kit.is("an empty land", x.undo(), false);
        x.goal(0, 6);
        Kit.reads(x, true, "fine 3", 3);
        Kit.is("a land", x.count(10), 0);
        Kit.is("what was done stays", x.person(0, 3), 6);
        x.goal(0, 7);
        Kit.reads(x, false, "", 0);
        Kit.is("an empty law", x.undo(), false);
        x.goal(0, 8);
        Kit.reads(x, false, "slow 1", 1);
        Kit.is("a law", x.undo(), false);
        x.goal(0, 9);
        x.image();
        Kit.is("keeping forgets none", x.count(10), 1);
        x.goal(0, 10);
        Kit.is("back", x.back(), true);
        Kit.is("none behind it", x.count(10), 0);
        Kit.is("nothing to undo", x.undo(), false);
        Kit.is("as kept", x.person(0, 3), 9);
        x.goal(0, 11);
        Kit.text(x, "zz");
        Kit.refuses("a wrong land", Kit.ARGUMENT, () -> x.land());
        Kit.text(x, "zz");
        Kit.refuses("a wrong law", Kit.ARGUMENT, () -> x.law());
        Kit.is("a wrong text forgets none", x.undo(), true);
        Kit.is("as ahead", x.person(0, 3), 9);
    }

    private static void images() {
        Kit.sentence("THE IMAGE (one) of all may be kept, and gone back to (but for the TAPE, fault() and THE IMAGE itself).");
        LaceBonds x = new LaceBonds();
        Kit.is("none yet", x.back(), false);
        x.feed(1, 2, 3, 4, 5);
        x.image();
        Kit.is("a new land kept", x.back(), true);
        Kit.is("the tape stays", Kit.sizeOfTape(x), 20);
        Kit.text(x, "person 9 pace 9 at 9;fine 50;mud 3 3;day 40");
        x.land();
        x.seed(9);
        Kit.text(x, "zz");
        Kit.refuses("a wrong text", Kit.ARGUMENT, () -> x.land());
        Kit.is("back to nobody", x.back(), true);
        int[] due = {0, 0, -1, 0, 5, 0, 0, 0, 0, 0, 0};
        for (int what = 0; what < due.length; what++) {
            Kit.is("count " + what, x.count(what), due[what]);
        }
        Kit.is("mud", x.mud(3), 0);
        Kit.is("seed", x.seed(1), 1);
        Kit.is("fault stays", x.fault(), 0);
        Kit.text(x, "person 9 pace 9 at 9;goal 0 1");
        x.land();
        x.image();
        x.days(1);
        x.image();
        x.days(5);
        Kit.is("the later one counts", x.back(), true);
        Kit.is("its day", x.count(3), 1);
        x.days(3);
        Kit.is("once more", x.back(), true);
        Kit.is("its day again", x.count(3), 1);
        Kit.is("its place", x.person(0, 2), 1);
    }
}
