import java.util.ArrayList;
import java.util.List;

/** Promises 4 to 6: each edge of a text that the document names, on both sides. */
public final class EdgeTextTest {
    /** Whether a text has told n: n itself, or something else. */
    interface Told {
        int of(LaceBonds x, int n);
    }

    private static final String THREE = "person 10 pace 9 at 1;person 20 pace 9 at 2;person 30 pace 9 at 3";
    private static final String[] JUNK = {"zz", ",", "7777", "A", "=", ".", "-", "\t", "\n", "\u0000", "\u007f", "\u00ff"};

    public static void main(String[] args) {
        landNumbers();
        lawNumbers();
        pledges();
        laceInItsShoe();
        byThen();
        emptyTexts();
        endsTooEarly();
        wrongThings();
        wordsAndBlanks();
        linesTooMany();
        peopleTooMany();
        tooDeep();
        thirteenthText();
        nothingStays();
        latestFault();
        Kit.close("EdgeTextTest");
    }

    private static void landNumbers() {
        Kit.sentence("PURSE 0 to 999, PACE 1 to 9");
        number(true, "person ", " pace 5 at 5", 0, 999, (x, n) -> x.person(3, 0));
        number(true, "person 5 pace ", " at 5", 1, 9, (x, n) -> x.person(3, 1));
        Kit.sentence("PLACES 0 to 19 on a way");
        number(true, "person 5 pace 5 at ", "", 0, 19, (x, n) -> x.person(3, 2));
        number(true, "goal 1 ", "", 0, 19, (x, n) -> x.person(1, 3));
        number(true, "mud ", " 7", 0, 19, (x, n) -> x.mud(n) == 7 ? n : -1);
        Kit.sentence("MUD 0 to 9 of each");
        number(true, "mud 19 ", "", 0, 9, (x, n) -> x.mud(19));
        Kit.sentence("PEOPLE (at most 6, numbered from 0 on)");
        number(true, "goal ", " 0", 0, 2, (x, n) -> x.person(n, 3) == 0 ? n : -1);
        Kit.sentence("for: 1 to 999; till: 1 to 999; day: 0 to 999.");
        number(true, "pledge 3 to 2 for ", " knot 1 till 5", 1, 999, (x, n) -> x.lace(3, 2));
        number(true, "pledge 3 to 2 for 5 knot 1 till ", "", 1, 999, (x, n) -> x.lace(3, 4));
        number(true, "day ", "", 0, 999, (x, n) -> x.count(3));
        Kit.sentence("a KNOT 0 to 9");
        number(true, "pledge 3 to 2 for 5 knot ", " till 5 by 0", 0, 9, (x, n) -> x.lace(3, 3));
        Kit.sentence("FINE 0 to 99 (5 at first)");
        Kit.is("at first", new LaceBonds().count(4), 5);
        number(true, "fine ", "", 0, 99, (x, n) -> x.count(4));
    }

    private static void lawNumbers() {
        Kit.sentence("All numbers are of 1 to 3 digits (N 0 to 99).");
        number(false, "slow ", "", 0, 99, (x, n) -> x.walks(1, 0) == Math.max(0, 9 - n) ? n : -1);
        number(false, "grow ", "", 0, 99, (x, n) -> x.grows(0) - 3);
        number(false, "fall ", "", 0, 99, (x, n) -> x.walks(1, 1));
        number(false, "slow ", " if even", 0, 99, (x, n) -> x.walks(1, 0) == Math.max(0, 9 - n) ? n : -1);
        number(false, "fall 7 if day<", "", 0, 999, (x, n) -> holdsJustBelow(x, n) ? n : -1);
        number(false, "fall 7 if day +0<", "+ 0", 0, 999, (x, n) -> holdsJustBelow(x, n) ? n : -1);
        number(false, "fall 7 if ", ">day", 0, 999, (x, n) -> holdsJustBelow(x, n) ? n : -1);
    }

    private static boolean holdsJustBelow(LaceBonds x, int n) {
        tell(x, "day " + n);
        boolean there = x.walks(0, 1) == 7;
        tell(x, "day " + Math.max(0, n - 1));
        return !there && x.walks(0, 1) == (n > 0 ? 7 : 0);
    }

    /** The number between ahead and behind: the first and the last that are one, and on both sides those that are none. */
    private static void number(boolean land, String ahead, String behind, int least, int most, Told told) {
        for (int n : new int[] {least, least + 1, most - 1, most}) {
            for (String form : new String[] {"%d", "%02d", "%03d"}) {
                LaceBonds x = world();
                String text = ahead + String.format(form, n) + behind;
                Kit.reads(x, land, text, land ? 2 : 1);
                Kit.is(text, told.of(x, n), n);
            }
        }
        List<String> none = new ArrayList<>(List.of("1000", "0000", "0001", "9999", "4294967297", "99999999999999999999", "-1", "+1", "x", ")"));
        none.add(String.format("%04d", least));
        for (int n : new int[] {least - 1, most + 1, 999}) {
            if (n >= 0 && (n < least || n > most)) {
                none.add("" + n);
                none.add(String.format("%03d", n));
            }
        }
        for (String n : none) {
            Kit.wrongAt(EdgeTextTest::world, land, ahead + n + behind, ahead.length());
        }
        // without the number: at what comes behind it, or at the text's end; where that is a number, too, one is missing at the end
        int blanks = behind.length() - behind.stripLeading().length();
        boolean another = behind.matches(" *[0-9]+");
        Kit.wrongAt(EdgeTextTest::world, land, ahead + behind, ahead.length() + (another ? behind.length() : blanks));
    }

    private static LaceBonds world() {
        return Kit.land(THREE + ";pledge 0 to 1 for 5 knot 3 till 500");
    }

    /** Each LACE with each HOLDER and each SURETY: what is wrong first. */
    private static void pledges() {
        Kit.sentence("L: a LACE of a PERSON that there is by then, in its shoe, else it is wrong; H of to: a PERSON that there is by then,"
                + " not its owner, else it is wrong; H of by: one who is neither of both, else it is wrong");
        for (int lace = 0; lace <= 7; lace++) {
            for (int holder = 0; holder <= 4; holder++) {
                for (int by = -1; by <= 4; by++) {
                    pledge(lace, holder, by);
                }
            }
        }
        Kit.wrongAt(Kit.of(THREE), true, "pledge 999 to 1 for 5 knot 1 till 5", 7);
        Kit.wrongAt(Kit.of(THREE), true, "pledge 0 to 999 for 5 knot 1 till 5", 12);
        Kit.wrongAt(Kit.of(THREE), true, "pledge 0 to 0001 for 5 knot 1 till 5", 12);
        Kit.wrongAt(Kit.of(THREE), true, "pledge 0 to 1 for 5 knot 1 till 5 by 999", 37);
        Kit.wrongAt(Kit.of(THREE), true, "pledge 0 to 1 for 5 knot 1 till 5 by 0002", 37);
    }

    private static void pledge(int lace, int holder, int by) {
        String text = "pledge " + lace + " to " + holder + " for 5 knot 1 till 5" + (by < 0 ? "" : " by " + by);
        if (lace > 5) {
            Kit.wrongAt(Kit.of(THREE), true, text, 7);
        } else if (holder > 2 || holder == lace / 2) {
            Kit.wrongAt(Kit.of(THREE), true, text, 12);
        } else if (by > 2 || by >= 0 && (by == lace / 2 || by == holder)) {
            Kit.wrongAt(Kit.of(THREE), true, text, 37);
        } else {
            LaceBonds x = Kit.land(THREE);
            Kit.reads(x, true, text, 2);
            Kit.is(text + ", how it is", x.lace(lace, 0), 1);
            Kit.is(text + ", the holder", x.lace(lace, 1), holder);
            Kit.is(text + ", the surety", x.lace(lace, 5), by);
        }
    }

    private static void laceInItsShoe() {
        Kit.sentence("in its shoe, else it is wrong");
        String pledge = "pledge 0 to 1 for 10 knot 1 till 1";
        String fifth = pledge.replace("0 to", "5 to");
        Kit.wrongAt(Kit.of(THREE), true, pledge + ";" + pledge, 42);
        Kit.Maker pledged = Kit.of(THREE, pledge);
        Kit.wrongAt(pledged, true, pledge, 7);
        Kit.reads(pledged.then(x -> x.pay(0)).make(), true, pledge, 3);
        Kit.Maker lost = pledged.then(x -> x.days(2));
        Kit.is("12 of a purse of 10", lost.make().lace(0, 0), 2);
        Kit.wrongAt(lost, true, pledge, 7);
        Kit.reads(lost.make(), true, pledge.replace("0 to", "1 to"), 3);
        Kit.Maker lent = lost.then(x -> x.lend(1, 5, 1, 0, 50));
        Kit.wrongAt(lent, true, fifth, 7);
        Kit.reads(lent.then(x -> x.undo()).make(), true, fifth, 3);
    }

    private static void byThen() {
        Kit.sentence("a PERSON that there is by then");
        String person = "person 1 pace 1 at 1";
        Kit.wrongAt(LaceBonds::new, true, "pledge 0 to 1 for 5 knot 1 till 5;" + person + ";" + person, 7);
        Kit.wrongAt(LaceBonds::new, true, person + ";pledge 0 to 1 for 5 knot 1 till 5;" + person, 33);
        Kit.wrongAt(LaceBonds::new, true, person + ";" + person + ";pledge 0 to 1 for 5 knot 1 till 5 by 2;" + person, 79);
        Kit.wrongAt(LaceBonds::new, true, person + ";pledge 2 to 0 for 5 knot 1 till 5;" + person, 28);
        Kit.wrongAt(LaceBonds::new, true, "goal 0 1;" + person, 5);
        Kit.wrongAt(LaceBonds::new, true, person + ";goal 1 1;" + person, 26);
        Kit.reads(new LaceBonds(), true, person + ";goal 0 1;" + person + ";goal 1 1;pledge 1 to 1 for 5 knot 1 till 5;" + person
                + ";pledge 5 to 1 for 5 knot 1 till 5 by 0", 1);
    }

    private static void emptyTexts() {
        Kit.sentence("A text that is empty, or blanks alone, has no LINE.");
        for (int blanks : new int[] {0, 1, 19, 20, 21, 399, 400}) {
            LaceBonds x = world();
            String before = Kit.all(x);
            Kit.reads(x, true, " ".repeat(blanks), 2);
            Kit.is("a text more and nothing else", Kit.all(x), before.replaceFirst("^3 1 ", "3 2 "));
            Kit.reads(x, false, " ".repeat(blanks), 0);
            Kit.is("a law of no lines", x.count(2), 0);
            Kit.is("by which nobody is slowed", x.walks(0, 0), 9);
            Kit.is("nobody falls", x.walks(0, 1), 0);
            Kit.is("and a knot grows alone", x.grows(0), 3);
        }
    }

    /** Texts as the things that they have; behind how many of them they may end. */
    private static void endsTooEarly() {
        Kit.sentence("or the text's length, if more must come");
        ends(true, new String[] {"person", "5", "pace", "3", "at", "7"}, 6);
        ends(true, new String[] {"pledge", "0", "to", "1", "for", "5", "knot", "1", "till", "5", "by", "2"}, 10, 12);
        ends(true, new String[] {"mud", "3", "4"}, 3);
        ends(true, new String[] {"goal", "2", "3"}, 3);
        ends(true, new String[] {"fine", "3", ";", "fine", "4"}, 2, 5);
        ends(true, new String[] {"day", "3", ";", "day", "4"}, 2, 5);
        ends(false, new String[] {"slow", "1", "if", "not", "(", "even", "or", "who", "+", "1", "<", "3", "+", "day", "and", "there", ")"}, 2, 17);
        ends(false, new String[] {"grow", "1", "if", "1", ">", "mud", ";", "fall", "3", "if", "tired", "<", "slack", "and", "even"}, 2, 6, 9, 13, 15);
    }

    private static void ends(boolean land, String[] things, int... complete) {
        for (int many = 1; many <= things.length; many++) {
            boolean whole = false;
            for (int n : complete) {
                whole |= n == many;
            }
            String text = String.join(" ", java.util.Arrays.copyOf(things, many));
            for (String behind : new String[] {"", " ", "   "}) {
                if (whole) {
                    Kit.reads(Kit.land(THREE), land, text + behind, land ? 2 : 1 + (int) text.chars().filter(c -> c == ';').count());
                } else {
                    Kit.wrongAt(Kit.of(THREE), land, text + behind, text.length() + behind.length());
                }
            }
        }
    }

    /** At each place of a text something that can stand nowhere. */
    private static void wrongThings() {
        Kit.sentence("The first wrong byte: the begin of the first thing that cannot stand there");
        wrongEverywhere(true, "person 5 pace 3 at 7 ; day 5");
        wrongEverywhere(true, "pledge 0 to 1 for 5 knot 1 till 5 by 2 ; mud 3 4 ; goal 2 3 ; fine 3");
        wrongEverywhere(false, "slow 1 if not ( even or who + 1 < 3 + day and there ) ; fall 3");
        wrongEverywhere(false, "grow 1 ; fall 3 if tired < slack and held > place or mud < 999");
        Kit.sentence("a word that is none");
        Kit.wrongAt(Kit.of(THREE), true, "days 5", 0);
        Kit.wrongAt(Kit.of(THREE), true, "da 5", 0);
        Kit.wrongAt(Kit.of(THREE), true, "dax 5", 0);
        Kit.wrongAt(Kit.of(THREE), true, "xay 5", 0);
        Kit.wrongAt(Kit.of(THREE), true, "fine 5;slow 5", 7);
        Kit.wrongAt(Kit.of(THREE), false, "slow 5;fine 5", 7);
        Kit.wrongAt(Kit.of(THREE), false, "slow 5 if purse < 3", 10);
        Kit.wrongAt(Kit.of(THREE), false, "slow 5 if pace < 3", 10);
        Kit.wrongAt(Kit.of(THREE), false, "slow 5 if who < even", 16);
        Kit.wrongAt(Kit.of(THREE), false, "slow 5 if if", 10);
        for (String word : new String[] {"who", "slack", "held", "place", "mud", "tired", "day", "even", "there", "not"}) {
            Kit.wrongAt(Kit.of(THREE), false, "slow 5 if " + word + "x < 3", 10);
            Kit.wrongAt(Kit.of(THREE), false, "slow 5 if " + word.substring(1) + " < 3", 10);
            Kit.wrongAt(Kit.of(THREE), false, "slow 5 if " + word.substring(0, word.length() - 1) + " < 3", 10);
        }
    }

    private static void wrongEverywhere(boolean land, String text) {
        for (int at = 0; at >= 0; at = text.indexOf(' ', at + 1)) {
            int begin = at == 0 ? 0 : at + 1;
            for (String junk : JUNK) {
                Kit.wrongAt(Kit.of(THREE), land, text.substring(0, begin) + junk + " " + text.substring(begin), begin);
                Kit.wrongAt(Kit.of(THREE), land, text.substring(0, begin) + "  " + junk, begin + 2);
            }
        }
        Kit.wrongAt(Kit.of(THREE), land, text + ",", text.length());
        Kit.wrongAt(Kit.of(THREE), land, text + "  )", text.length() + 2);
    }

    private static void wordsAndBlanks() {
        Kit.sentence("Words are as long as a to z go on; between all there may be blanks (32), also ahead and behind.");
        LaceBonds x = Kit.land(THREE);
        Kit.reads(x, true, "person5pace3at7;pledge0to1for5knot1till5by2;mud3 4;goal2 3;fine3;day4", 2);
        Kit.reads(x, true, "   person   5   pace   3   at   7   ;   mud   3   5   ", 3);
        Kit.is("all four", x.count(0), 5);
        Kit.is("mud", x.mud(3), 5);
        Kit.reads(x, false, "slow1if not(even or who+1<3and there);fall3if 1<2", 2);
        Kit.reads(x, false, "  slow  1  if  not  (  even  or  who  +  1  <  3  and  there  )  ;  fall  3  if  1  <  2  ", 2);
        Kit.is("as told", x.walks(0, 1), 3);
        Kit.wrongAt(Kit.of(THREE), true, "fine3day4", 5);
        Kit.wrongAt(Kit.of(THREE), true, "mud34", 3);
        Kit.wrongAt(Kit.of(THREE), true, "goal23", 4);
        Kit.wrongAt(Kit.of(THREE), true, "person5pacepace", 7);
        Kit.wrongAt(Kit.of(THREE), true, "person5 pace3at7to", 16);
        Kit.wrongAt(Kit.of(THREE), true, "fi ne 3", 0);
        Kit.wrongAt(Kit.of(THREE), true, "mud 3 4 5", 8);
        Kit.wrongAt(Kit.of(THREE), false, "slowif", 0);
        Kit.wrongAt(Kit.of(THREE), false, "slow1ifnot even", 5);
        Kit.wrongAt(Kit.of(THREE), false, "slow1if noteven", 8);
        Kit.wrongAt(Kit.of(THREE), false, "slow1if evenor there", 8);
        Kit.wrongAt(Kit.of(THREE), false, "slow1if even or(there", 21);
        Kit.wrongAt(Kit.of(THREE), false, "slow 1 if who < 1 2", 18);
        Kit.wrongAt(Kit.of(THREE), false, "slow 1 0 if even", 7);
    }

    private static void linesTooMany() {
        Kit.sentence("LINE { ; LINE }, at most 14");
        lines(true, "fine 3", 14);
        Kit.sentence("LINE { ; LINE }, at most 12");
        lines(false, "slow 3", 12);
    }

    private static void lines(boolean land, String line, int most) {
        for (int many = most - 1; many <= most; many++) {
            LaceBonds x = Kit.land(THREE);
            Kit.reads(x, land, (line + ";").repeat(many - 1) + line, land ? 2 : many);
        }
        String full = (line + " ;").repeat(most);
        Kit.wrongAt(Kit.of(THREE), land, full + "  " + line, full.length() + 2);
        Kit.wrongAt(Kit.of(THREE), land, full + line + ";" + line + ";" + line, full.length());
        Kit.wrongAt(Kit.of(THREE), land, full + line + " 7777", full.length());
        Kit.wrongAt(Kit.of(THREE), land, full + " zz", full.length() + 1);
        Kit.wrongAt(Kit.of(THREE), land, full, full.length());
        Kit.wrongAt(Kit.of(THREE), land, full + "  ", full.length() + 2);
        Kit.wrongAt(Kit.of(THREE), land, full.substring(0, full.length() - 1) + "zz", full.length() - 1);
    }

    private static void peopleTooMany() {
        Kit.sentence("of a LINE, a PERSON too many, the first word");
        String one = "person 1 pace 1 at 1;";
        Kit.wrongAt(LaceBonds::new, true, one.repeat(6) + "  person 1 pace 1 at 1", 128);
        Kit.wrongAt(LaceBonds::new, true, one.repeat(6) + "person", 126);
        Kit.wrongAt(LaceBonds::new, true, one.repeat(6) + "person 7777", 126);
        Kit.wrongAt(LaceBonds::new, true, one.repeat(6) + "person 1 pace 1 at 1;zz", 126);
        LaceBonds x = new LaceBonds();
        Kit.reads(x, true, one.repeat(5) + "fine 3", 1);
        Kit.is("five", x.count(0), 5);
        Kit.wrongAt(Kit.of(one.repeat(5) + "fine 3"), true, one + "person 1 pace 1 at 1", 21);
        Kit.reads(x, true, "person 9 pace 1 at 1", 2);
        Kit.is("six", x.count(0), 6);
        Kit.is("the sixth", x.person(5, 0), 9);
        Kit.is("its right lace", x.lace(11, 0), 0);
        Kit.Maker six = Kit.of(one.repeat(5) + "fine 3", "person 9 pace 1 at 1");
        Kit.wrongAt(six, true, "person 9 pace 1 at 1", 0);
        Kit.wrongAt(six, true, "fine 3; person 9 pace 1 at 1", 8);
        Kit.reads(x, true, "pledge 11 to 4 for 1 knot 1 till 1 by 0;goal 5 3", 3);
    }

    private static void tooDeep() {
        Kit.sentence("( and not within one another at most 6 deep");
        for (int nots = 0; nots <= 6; nots++) {
            String open = "not ".repeat(nots) + "( ".repeat(6 - nots);
            String shut = " )".repeat(6 - nots);
            Kit.reads(Kit.land(THREE), false, "slow 1 if " + open + "even" + shut, 1);
            Kit.reads(Kit.land(THREE), false, "slow 1 if " + open + "even" + shut + " and " + open + "there" + shut + ";slow 2 if " + open + "0<1" + shut, 2);
            Kit.wrongAt(Kit.of(THREE), false, "slow 1 if " + open + "not even" + shut, 10 + open.length());
            Kit.wrongAt(Kit.of(THREE), false, "slow 1 if " + open + "( even )" + shut, 10 + open.length());
            if (nots < 6) {
                Kit.wrongAt(Kit.of(THREE), false, "slow 1 if " + open + "there or (" + shut, 10 + open.length() + 9);
                Kit.wrongAt(Kit.of(THREE), false, "slow 1 if " + open + "there and not", 10 + open.length() + 10);
            }
        }
        String mixed = "slow 1 if not ( not ( not ( ";
        Kit.reads(Kit.land(THREE), false, mixed + "even ) ) )", 1);
        Kit.wrongAt(Kit.of(THREE), false, mixed + "not even ) ) )", mixed.length());
        Kit.wrongAt(Kit.of(THREE), false, mixed + "(even) ) ) )", mixed.length());
        Kit.wrongAt(Kit.of(THREE), false, mixed + "even ) and not ( not ) )", mixed.length() + 17);
        Kit.reads(Kit.land(THREE), false, mixed + "even ) and not ( even ) ) )", 1);
        Kit.wrongAt(Kit.of(THREE), false, "slow 1 if " + "(".repeat(390), 16);
        Kit.wrongAt(Kit.of(THREE), false, "slow 1 if " + "not ".repeat(97), 34);
    }

    private static void thirteenthText() {
        Kit.sentence("UnsupportedOperationException: there are 12.");
        LaceBonds x = new LaceBonds();
        for (int n = 1; n <= 11; n++) {
            Kit.reads(x, true, "", n);
        }
        x.image();
        Kit.reads(x, true, "person 1 pace 1 at 1", 12);
        x.rest(0);
        Kit.text(x, "fine 9");
        Kit.refuses("a 13th", Kit.UNSUPPORTED, () -> x.land());
        Kit.is("acts are remembered still", x.undo(), true);
        Kit.reads(x, false, "slow 1", 1);
        x.back();
        Kit.is("11 again", x.count(1), 11);
        Kit.reads(x, true, "person 1 pace 1 at 1", 12);
        Kit.text(x, "fine 9");
        Kit.refuses("a 13th again", Kit.UNSUPPORTED, () -> x.land());
        Kit.Maker eleven = Kit.of("", "", "", "", "", "", "", "", "", "", "");
        Kit.wrongAt(eleven, true, "zz", 0);
        Kit.Maker twelve = eleven.then(y -> tell(y, "person 1 pace 1 at 1")).then(y -> y.rest(0));
        for (String text : new String[] {"", "   ", "fine 9", "person 1 pace 1 at 1", "day 3;day 4"}) {
            thirteenth(twelve, text);
            Kit.wrongAt(twelve, true, text + " zz", text.length() + 1);
        }
    }

    private static void thirteenth(Kit.Maker twelve, String text) {
        Kit.leaves(twelve, "a 13th: " + text, Kit.UNSUPPORTED, x -> tell(x, text));
        LaceBonds x = twelve.make();
        Kit.text(x, text);
        Kit.refuses("a 13th: " + text, Kit.UNSUPPORTED, () -> x.land());
        Kit.is("read to its end", x.fault(), -1);
        Kit.is("used up", x.end(1), false);
    }

    private static void nothingStays() {
        Kit.sentence("Of a wrong text nothing stays.");
        for (String line : new String[] {"person 1 pace 1 at 1", "pledge 5 to 0 for 5 knot 1 till 5 by 1", "mud 3 4", "goal 2 9", "fine 9", "day 9"}) {
            Kit.wrongAt(EdgeTextTest::world, true, line + ";zz", line.length() + 1);
            Kit.wrongAt(EdgeTextTest::world, true, line + ";", line.length() + 1);
            Kit.wrongAt(EdgeTextTest::world, true, line + " " + line, line.length() + 1);
        }
        String wrong = "slow 5;grow 5;fall 5;zz";
        LaceBonds x = world();
        refused(x, false, wrong, 21);
        Kit.is("no law still", x.count(2), -1);
        Kit.reads(x, false, "slow 3 if even;fall 4", 2);
        refused(x, false, wrong, 21);
        Kit.is("the law before still", x.count(2), 2);
        Kit.is("it slows", x.walks(1, 0), 6);
        Kit.is("it lets fall", x.walks(1, 1), 4);
        refused(x, true, "person 1 pace 1 at 1;zz", 21);
        Kit.reads(x, true, "person 7 pace 2 at 3", 2);
        Kit.is("no trace of the one who was not", x.person(3, 0) * 100 + x.person(3, 1) * 10 + x.person(3, 3), 723);
        Kit.Maker told = ((Kit.Maker) EdgeTextTest::world).law("slow 3 if even;fall 4");
        Kit.wrongAt(told, false, wrong, 21);
        Kit.wrongAt(told, true, "person 1 pace 1 at 1;zz", 21);
    }

    private static void refused(LaceBonds x, boolean land, String text, int at) {
        Kit.text(x, text);
        Kit.refuses(text, Kit.ARGUMENT, () -> land ? x.land() : x.law());
        Kit.is("fault of " + text, x.fault(), at);
    }

    private static void latestFault() {
        Kit.sentence("The first wrong byte of the latest text that was read; NONE without one, and ahead of any.");
        LaceBonds x = new LaceBonds();
        Kit.is("ahead of any", x.fault(), -1);
        refused(x, true, "person 1 pace 1 at 1;x", 21);
        Kit.is("asked again", x.fault(), 21);
        refused(x, false, "slow 1 x", 7);
        Kit.reads(x, false, "slow 1", 1);
        refused(x, false, "x", 0);
        Kit.reads(x, true, "", 1);
        refused(x, true, " ".repeat(399) + "x", 399);
        refused(x, false, " ".repeat(396) + "slow", 400);
        Kit.tape(x, 1);
        Kit.refuses("no rows", Kit.ARGUMENT, () -> x.wear(false));
        Kit.tape(x);
        Kit.is("carry", x.carry(-1), 0);
        x.image();
        x.back();
        x.undo();
        Kit.is("what is no text leaves it", x.fault(), 400);
    }

    private static int tell(LaceBonds x, String text) {
        Kit.text(x, text);
        return x.land();
    }
}
