import java.util.ArrayList;
import java.util.List;
import java.util.Random;

/** All promises: long runs of calls by chance, each answer compared with the one of Model. */
public final class ModelTest {
    private static final String[] LAND_WORDS = {"person", "pledge", "mud", "goal", "fine", "day", "pace", "at", "to", "for", "knot", "till",
        "by", ";", "0", "1", "5", "999", "1000", "x", "P", "person 5 pace 3 at 2"};
    private static final String[] LAW_WORDS = {"slow", "grow", "fall", "if", "and", "or", "not", "(", ")", "even", "there", "<", ">", "+",
        "who", "slack", "held", "place", "mud", "tired", "day", "1", "7", "99", "100", "1000", ";", "x", "=", "who < 3", "mud > 0"};
    /** What an object answers behind so many calls is free. */
    private static final int CALLS = 512;
    private static final String[] PARTS = {"who", "slack", "held", "place", "mud", "tired", "day"};

    private final Random chance;
    private final List<String> calls = new ArrayList<>();
    private final LaceBonds x = new LaceBonds();
    private final Model m = new Model();
    private int used = 0;

    private ModelTest(long seed) {
        chance = new Random(seed);
    }

    public static void main(String[] args) {
        int runs = args.length > 0 ? Integer.parseInt(args[0]) : 900;
        long first = args.length > 1 ? Long.parseLong(args[1]) : 1;
        for (int run = 0; run < runs; run++) {
            new ModelTest(first + run).run();
        }
        Kit.close("ModelTest");
    }

    private void run() {
        int kind = below(4);
        if (kind != 0) {
            tellLand(1 + below(6), below(8));
            if (below(2) == 0) {
                tellLaw(goodLaw());
            }
        }
        while (used < CALLS) {
            step();
        }
    }

    private int below(int n) {
        return chance.nextInt(n);
    }

    /** Mostly a number that there is, at times one beside it or a very far one. */
    private int near(int least, int most) {
        switch (below(24)) {
            case 0: return least - 1;
            case 1: return most + 1;
            case 2: return new int[] {Integer.MIN_VALUE, Integer.MAX_VALUE, -1, 400, 1 << 30}[below(5)];
            default: return most < least ? least : least + below(most - least + 1);
        }
    }

    private int person() {
        return near(0, m.w.people.size() - 1);
    }

    private int lace() {
        return near(0, m.w.laces.size() - 1);
    }

    private void same(String name, Kit.Call mine, Kit.Call due) {
        if (used == CALLS) {
            return;
        }
        used++;
        Object got = Kit.answer(mine);
        Object want = Kit.answer(due);
        calls.add(name + " -> " + want);
        Kit.is(name, got, want);
        if (!want.equals(got)) {
            calls.forEach(System.out::println);
            Kit.close("ModelTest");
        }
    }

    private void feed(int[] bytes) {
        int[] padded = java.util.Arrays.copyOf(bytes, (bytes.length + 19) / 20 * 20);
        for (int i = 0; i < padded.length; i += 20) {
            int a = Kit.four(padded, i);
            int b = Kit.four(padded, i + 4);
            int c = Kit.four(padded, i + 8);
            int d = Kit.four(padded, i + 12);
            int e = Kit.four(padded, i + 16);
            same("feed", () -> x.feed(a, b, c, d, e), () -> m.feed(a, b, c, d, e));
        }
        int n = m.tape.size() - (padded.length - bytes.length);
        same("end " + n, () -> x.end(n), () -> m.end(n));
    }

    private void text(String text) {
        same("end 0", () -> x.end(0), () -> m.end(0));
        calls.add("text \"" + text + "\"");
        feed(text.chars().toArray());
    }

    private void tellLaw(String text) {
        text(text);
        same("law", () -> x.law(), () -> m.law());
        same("fault", () -> x.fault(), () -> m.fault);
    }

    private void tellLand(String text) {
        text(text);
        same("land", () -> x.land(), () -> m.land());
        same("fault", () -> x.fault(), () -> m.fault);
    }

    private void tellLand(int people, int pledges) {
        StringBuilder s = new StringBuilder();
        for (int i = 0; i < people; i++) {
            s.append(i == 0 ? "" : ";").append("person ").append(below(3) == 0 ? below(1000) : below(100)).append(" pace ")
                    .append(1 + below(9)).append(" at ").append(below(20));
        }
        tellLand(s.toString());
        s.setLength(0);
        int alike = 1 + below(40);
        for (int i = 0; i < pledges && people > 1; i++) {
            int l = below(2 * people);
            int h = below(people);
            s.append(i == 0 ? "" : ";").append("pledge ").append(l).append(" to ").append(h).append(" for ")
                    .append(below(2) == 0 ? alike : 1 + below(60)).append(" knot ").append(below(3)).append(" till ").append(1 + below(60));
            if (below(2) == 0) {
                s.append(" by ").append(below(people));
            }
            tellLand(s.toString());
            s.setLength(0);
            i += below(2);
        }
        for (int i = 0; i < 3; i++) {
            tellLand("mud " + below(20) + " " + below(10) + ";goal " + below(people) + " " + below(20) + (below(3) == 0 ? ";fine " + below(100) : ""));
        }
    }

    private String goodLaw() {
        StringBuilder s = new StringBuilder();
        int lines = 1 + below(6);
        for (int i = 0; i < lines; i++) {
            s.append(i == 0 ? "" : ";").append(new String[] {"slow ", "grow ", "fall "}[below(3)]).append(below(3) == 0 ? below(100) : below(6));
            if (below(4) != 0) {
                s.append(" if ").append(condition(3));
            }
        }
        return s.length() > 400 ? "slow 1;fall 30" : s.toString();
    }

    private String condition(int depth) {
        switch (depth == 0 ? below(4) : below(10)) {
            case 0: return "even";
            case 1: return "there";
            case 2: return sum() + "<" + sum();
            case 3: return sum() + " > " + sum();
            case 4: return "not " + condition(depth - 1).replaceAll(" (or|and) .*", "");
            case 5: return "(" + condition(depth - 1) + ")";
            case 6: return condition(depth - 1) + " and " + condition(depth - 1);
            case 7: return condition(depth - 1) + " or " + condition(depth - 1);
            default: return sum() + " > " + sum();
        }
    }

    private String sum() {
        String part = below(3) == 0 ? "" + below(12) : PARTS[below(PARTS.length)];
        return below(3) == 0 ? part + " + " + sum() : part;
    }

    private String muddled(String[] words) {
        StringBuilder s = new StringBuilder();
        int many = below(14);
        for (int i = 0; i < many; i++) {
            s.append(words[below(words.length)]).append(below(4) == 0 ? "" : " ");
        }
        return s.toString();
    }

    /** A right text with one byte changed, left out or put in. */
    private String damaged(String text) {
        if (text.isEmpty()) {
            return text;
        }
        int at = below(text.length());
        char sign = "abdnot 0123456789;()<>+\u0000\u00ffX".charAt(below(26));
        switch (below(4)) {
            case 0: return text.substring(0, at);
            case 1: return text.substring(0, at) + text.substring(at + 1);
            case 2: return text.substring(0, at) + sign + text.substring(at + 1);
            default: return text.length() < 400 ? text.substring(0, at) + sign + text.substring(at) : text;
        }
    }

    private void step() {
        switch (below(40)) {
            case 0: texts(); break;
            case 1: case 2: case 3: case 4: case 5: case 6: case 7: lendOrPay(); break;
            case 8: case 9: case 10: sureties(); break;
            case 11: case 12: case 13: walking(); break;
            case 14: case 15: case 16: tapes(); break;
            case 17: case 18: memory(); break;
            case 19: raw(); break;
            case 20: case 21: case 22: aheads(); break;
            case 23: case 24: case 25: case 26: debts(); break;
            case 27: case 28: case 29: others(); break;
            default: plain(); break;
        }
    }

    private void texts() {
        switch (below(8)) {
            case 0: tellLand(muddled(LAND_WORDS)); break;
            case 1: tellLaw(muddled(LAW_WORDS)); break;
            case 2: tellLaw(goodLaw()); break;
            case 3: tellLaw(damaged(goodLaw())); break;
            case 4: tellLand(" ".repeat(below(3))); break;
            case 5: tellLand(damaged("person 1 pace 1 at 0;person 20 pace 2 at 19 ; pledge 1 to 0 for 3 knot 1 till 5 by 2; goal 0 3;day 4;fine 7;mud 3 4")); break;
            case 6: tellLand("day " + below(1000)); break;
            default: tellLaw(damaged("fall 20 if not(not not (even or not ( slack < 1 + who )));grow 3 if day+5>place and there")); break;
        }
    }

    private void lendOrPay() {
        int l = lace();
        if (below(3) == 0) {
            same("pay " + l, () -> x.pay(l), () -> m.pay(l));
            return;
        }
        int h = person();
        int amount = below(6) == 0 ? near(1, 999) : near(1, 30);
        int knot = near(0, 9) % 12;
        int term = below(3) == 0 ? near(1, 9999) : m.w.day + below(20);
        same("lend " + h + " " + l + " " + amount + " " + knot + " " + term, () -> x.lend(h, l, amount, knot, term),
                () -> m.lend(h, l, amount, knot, term));
    }

    private void sureties() {
        int l = lace();
        int p = below(6) == 0 ? -1 : person();
        if (below(2) == 0) {
            same("surety " + l + " " + p, () -> x.surety(l, p), () -> m.surety(l, p));
        } else {
            same("give " + l + " " + p, () -> x.give(l, p), () -> m.give(l, p));
        }
    }

    private void walking() {
        int p = person();
        int place = near(0, 19);
        int n = below(4) == 0 ? near(1, 60) : near(1, 4);
        switch (below(4)) {
            case 0: case 1: same("goal " + p + " " + place, () -> x.goal(p, place), () -> m.goal(p, place)); break;
            case 2: same("rest " + p, () -> x.rest(p), () -> m.rest(p)); break;
            default: same("days " + n, () -> x.days(n), () -> m.days(n)); break;
        }
    }

    private void tapes() {
        same("end 0", () -> x.end(0), () -> m.end(0));
        int people = m.w.people.size();
        boolean flag = below(2) == 0;
        if (below(3) == 0) {
            int[] places = new int[below(12) == 0 ? below(8) : people];
            for (int i = 0; i < places.length; i++) {
                places[i] = below(30) == 0 ? 20 : below(20);
            }
            calls.add(java.util.Arrays.toString(places));
            feed(places);
            int p = flag ? -1 : person();
            same("carry " + p, () -> x.carry(p), () -> m.carry(p));
            return;
        }
        int[] rows = new int[below(20) == 0 ? below(50) : 3 * below(4)];
        for (int i = 0; i < rows.length; i++) {
            rows[i] = below(40) == 0 ? below(256) : people == 0 ? 0 : below(people);
            if (i % 3 == 1 && below(20) != 0) {
                rows[i] = Math.max(rows[i], rows[i - 1]);
            }
            if (i % 3 == 2 && below(10) != 0) {
                rows[i] = Math.min(rows[i], Math.abs(rows[i - 1] - rows[i - 2]) + 1);
            }
        }
        calls.add(java.util.Arrays.toString(rows));
        feed(rows);
        if (below(2) == 0) {
            same("look", () -> x.look(), () -> m.look());
        } else {
            same("wear " + flag, () -> x.wear(flag), () -> m.wear(flag));
        }
    }

    private void memory() {
        int n = chance.nextInt();
        switch (below(12)) {
            case 0: same("image", () -> keptBy(x), () -> m.image()); break;
            case 1: same("back", () -> x.back(), () -> m.back()); break;
            case 2: same("seed " + n, () -> x.seed(n), () -> m.seed(n)); break;
            default:
                for (int i = below(20) == 0 ? 14 : below(3); i >= 0; i--) {
                    same("undo", () -> x.undo(), () -> m.undo());
                }
                break;
        }
    }

    private static boolean keptBy(LaceBonds x) {
        x.image();
        return true;
    }

    private void raw() {
        int n = near(0, 400);
        int a = chance.nextInt();
        int b = chance.nextInt();
        same("feed raw", () -> x.feed(a, b, a ^ b, -1, 0), () -> m.feed(a, b, a ^ b, -1, 0));
        same("end " + n, () -> x.end(n), () -> m.end(n));
        switch (below(12)) {
            case 0: same("land", () -> x.land(), () -> m.land()); break;
            case 1: same("law", () -> x.law(), () -> m.law()); break;
            case 2: same("carry", () -> x.carry(n), () -> m.carry(n)); break;
            case 3: same("wear", () -> x.wear(true), () -> m.wear(true)); break;
            case 4: same("look", () -> x.look(), () -> m.look()); break;
            default: break;
        }
        same("fault", () -> x.fault(), () -> m.fault);
    }

    private void aheads() {
        int p = person();
        int l = lace();
        int n = near(0, 60);
        int place = near(0, 19);
        boolean flag = below(2) == 0;
        switch (below(7)) {
            case 0: same("comes " + p + " " + place, () -> x.comes(p, place), () -> m.comes(p, place)); break;
            case 1: same("soonest " + place, () -> x.soonest(place), () -> m.soonest(place)); break;
            case 2: same("ahead " + p + " " + n + flag, () -> x.ahead(p, n, flag), () -> m.ahead(p, n, flag)); break;
            case 3: same("breaks " + n, () -> x.breaks(n), () -> m.breaks(n)); break;
            case 4: same("mercy " + l, () -> x.mercy(l), () -> m.mercy(l)); break;
            case 5: same("trial " + n + flag, () -> x.trial(n, flag), () -> m.trial(n, flag)); break;
            default: same("span " + n + flag, () -> x.span(n, flag), () -> m.span(n, flag)); break;
        }
    }

    private void debts() {
        int p = person();
        int q = person();
        boolean flag = below(2) == 0;
        switch (below(10)) {
            case 0: same("rings", () -> x.rings(), () -> m.rings()); break;
            case 1: same("untie " + flag, () -> x.untie(flag), () -> m.untie(flag)); break;
            case 2: same("owes " + p + " " + q, () -> x.owes(p, q), () -> m.owes(p, q)); break;
            case 3: same("leads " + p, () -> x.leads(p), () -> m.leads(p)); break;
            case 4: case 5: same("call " + p + flag, () -> x.call(p, flag), () -> m.call(p, flag)); break;
            case 6: same("hangs " + p, () -> x.hangs(p), () -> m.hangs(p)); break;
            case 7: same("trust", () -> x.trust(), () -> m.trust()); break;
            case 8: same("needed", () -> x.needed(), () -> m.needed()); break;
            default: same("solvent", () -> x.solvent(), () -> m.solvent()); break;
        }
    }

    private void others() {
        int p = person();
        int l = lace();
        int n = near(1, 999);
        boolean flag = below(2) == 0;
        switch (below(7)) {
            case 0: same("race " + p, () -> x.race(p), () -> m.race(p)); break;
            case 1: same("pairs", () -> x.pairs(), () -> m.pairs()); break;
            case 2: same("lends " + n, () -> x.lends(n), () -> m.lends(n)); break;
            case 3: same("loose " + p, () -> x.loose(p), () -> m.loose(p)); break;
            case 4: same("rail", () -> x.rail(), () -> m.rail()); break;
            case 5: same("led " + l + flag, () -> x.led(l, flag), () -> m.led(l, flag)); break;
            default: break;
        }
        int ago = near(0, m.w.log.size());
        int what = near(0, 3);
        same("log " + ago + " " + what, () -> x.log(ago, what), () -> m.log(ago, what));
    }

    private void plain() {
        int p = person();
        int l = lace();
        int what = near(0, 10);
        int of = near(0, 5);
        int one = near(0, 1);
        int place = near(0, 19);
        switch (below(6)) {
            case 0: same("person " + p + " " + what, () -> x.person(p, what), () -> m.person(p, what)); break;
            case 1: same("lace " + l + " " + of, () -> x.lace(l, of), () -> m.lace(l, of)); break;
            case 2: same("mud " + place, () -> x.mud(place), () -> m.mud(place)); break;
            case 3: same("walks " + p + " " + one, () -> x.walks(p, one), () -> m.walks(p, one)); break;
            case 4: same("grows " + l, () -> x.grows(l), () -> m.grows(l)); break;
            default: same("count " + what, () -> x.count(what), () -> m.count(what)); break;
        }
    }
}
