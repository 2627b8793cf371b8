import java.util.ArrayDeque;
import java.util.ArrayList;
import java.util.Deque;
import java.util.HashSet;
import java.util.List;
import java.util.NoSuchElementException;
import java.util.Set;
import java.util.function.ToIntFunction;

/** The document once more, written from it anew and without thrift, so that ModelTest can compare both. */
final class Model {
    static final class Lace {
        int how;
        int holder = -1;
        int amount;
        int knot;
        int term;
        int surety = -1;

        Lace copy() {
            Lace l = new Lace();
            l.how = how;
            l.holder = holder;
            l.amount = amount;
            l.knot = knot;
            l.term = term;
            l.surety = surety;
            return l;
        }
    }

    static final class Person {
        int purse;
        int pace;
        int place;
        int goal;
        int tired;

        Person copy() {
            Person p = new Person();
            p.purse = purse;
            p.pace = pace;
            p.place = place;
            p.goal = goal;
            p.tired = tired;
            return p;
        }
    }

    interface Condition {
        boolean holds(World w, int person);
    }

    record Rule(String kind, int n, Condition when) {
    }

    record Row(int day, int lace, int what, int amount) {
    }

    static final class World {
        List<Person> people = new ArrayList<>();
        List<Lace> laces = new ArrayList<>();
        int[] mud = new int[20];
        int day;
        int fine = 5;
        int seed = 1;
        int falls;
        int texts;
        List<Row> log = new ArrayList<>();
        List<Rule> law;

        World copy() {
            World w = new World();
            people.forEach(p -> w.people.add(p.copy()));
            laces.forEach(l -> w.laces.add(l.copy()));
            w.mud = mud.clone();
            w.day = day;
            w.fine = fine;
            w.seed = seed;
            w.falls = falls;
            w.texts = texts;
            w.log = new ArrayList<>(log);
            w.law = law;
            return w;
        }

        int slack(int p) {
            return (laces.get(2 * p).how == 0 ? 0 : 1) + (laces.get(2 * p + 1).how == 0 ? 0 : 1);
        }

        int held(int p) {
            int set = 0;
            for (int l = 0; l < laces.size(); l++) {
                if (laces.get(l).how != 0 && laces.get(l).holder == p) {
                    set |= 1 << l;
                }
            }
            return set;
        }

        int sum(String kind, int p) {
            int s = 0;
            for (Rule r : law) {
                if (r.kind.equals(kind) && r.when.holds(this, p)) {
                    s += r.n;
                }
            }
            return s;
        }

        int walks(int p) {
            int less = law == null ? 2 * slack(p) : sum("slow", p);
            return Math.max(0, people.get(p).pace - less);
        }

        int falls(int p) {
            return law == null ? 10 * slack(p) : Math.min(100, sum("fall", p));
        }

        int grows(int l) {
            return laces.get(l).knot + (law == null ? 0 : sum("grow", l / 2));
        }

        void note(int l, int what, int amount) {
            log.add(new Row(day, l, what, amount));
            if (log.size() > 60) {
                log.remove(0);
            }
        }

        void paid(int l, int payer) {
            Lace it = laces.get(l);
            people.get(payer).purse -= it.amount;
            Person h = people.get(it.holder);
            h.purse = Math.min(999, h.purse + it.amount);
            note(l, 1, it.amount);
            laces.set(l, new Lace());
        }

        void aDay(boolean draws) {
            for (int p = 0; p < people.size(); p++) {
                Person it = people.get(p);
                if (it.place == it.goal) {
                    continue;
                }
                boolean down = false;
                if (draws) {
                    seed = 1103515245 * seed + 12345;
                    int draw = (int) ((seed & 0xFFFFFFFFL) / 65536 % 32768);
                    down = draw % 100 < falls(p);
                }
                if (down) {
                    it.purse = it.purse < fine ? 0 : it.purse - fine;
                    it.tired = it.tired < 9 ? it.tired + 1 : 9;
                    falls++;
                } else {
                    for (int step = walks(p); step > 0 && it.place != it.goal; step--) {
                        it.place += it.goal > it.place ? 1 : -1;
                    }
                }
            }
            for (int l = 0; l < laces.size(); l++) {
                if (laces.get(l).how == 1) {
                    laces.get(l).amount = Math.min(999, laces.get(l).amount + grows(l));
                }
            }
            for (int l = 0; l < laces.size(); l++) {
                Lace it = laces.get(l);
                if (it.how != 1 || it.term > day) {
                    continue;
                }
                if (people.get(l / 2).purse >= it.amount) {
                    paid(l, l / 2);
                } else if (it.surety >= 0 && people.get(it.surety).purse >= it.amount) {
                    paid(l, it.surety);
                } else {
                    note(l, 2, it.amount);
                    Lace gone = new Lace();
                    gone.how = 2;
                    gone.holder = it.holder;
                    laces.set(l, gone);
                }
            }
            day = day >= 9999 ? 9999 : day + 1;
        }

        World later(int n, boolean draws) {
            World w = copy();
            for (int i = 0; i < n; i++) {
                w.aDay(draws);
            }
            return w;
        }

        int set(java.util.function.IntPredicate takes, int many) {
            int s = 0;
            for (int i = 0; i < many; i++) {
                if (takes.test(i)) {
                    s |= 1 << i;
                }
            }
            return s;
        }

        int lost() {
            return set(l -> laces.get(l).how == 2, laces.size());
        }

        int pledged() {
            return set(l -> laces.get(l).how == 1, laces.size());
        }

        int comes(int p, int place) {
            World w = copy();
            w.people.get(p).goal = place;
            int n = 0;
            while (w.people.get(p).place != place && n <= 60) {
                w.aDay(false);
                n++;
            }
            return n > 60 ? -1 : n;
        }
    }

    /** The byte at which a text is wrong. */
    static final class Wrong extends Exception {
        private static final long serialVersionUID = 1L;
        final int at;

        Wrong(int at) {
            this.at = at;
        }
    }

    /** A text cut into things ahead of all reading: words, numbers, single signs. */
    static final class Things {
        final List<String> what = new ArrayList<>();
        final List<Integer> where = new ArrayList<>();
        int next;
        final int length;

        Things(String text) {
            length = text.length();
            java.util.regex.Matcher m = java.util.regex.Pattern.compile("[a-z]+|[0-9]+|[^ ]", java.util.regex.Pattern.DOTALL).matcher(text);
            while (m.find()) {
                what.add(m.group());
                where.add(m.start());
            }
        }

        String peek() {
            return next < what.size() ? what.get(next) : "";
        }

        int at() {
            return next < what.size() ? where.get(next) : length;
        }

        boolean skip(String thing) {
            if (peek().equals(thing)) {
                next++;
                return true;
            }
            return false;
        }

        void must(String thing) throws Wrong {
            if (!skip(thing)) {
                throw new Wrong(at());
            }
        }

        int number(int least, int most) throws Wrong {
            String s = peek();
            if (!s.matches("[0-9]{1,3}") || Integer.parseInt(s) < least || Integer.parseInt(s) > most) {
                throw new Wrong(at());
            }
            next++;
            return Integer.parseInt(s);
        }
    }

    World w = new World();
    World image;
    final Deque<World> past = new ArrayDeque<>();
    List<Integer> tape = new ArrayList<>();
    int fault = -1;

    int feed(int... numbers) {
        if (tape.size() + 20 > 400) {
            return -1;
        }
        for (int n : numbers) {
            for (byte b : java.nio.ByteBuffer.allocate(4).putInt(n).array()) {
                tape.add(b & 255);
            }
        }
        return tape.size();
    }

    boolean end(int n) {
        if (n < 0 || n > tape.size()) {
            return false;
        }
        tape = new ArrayList<>(tape.subList(0, n));
        return true;
    }

    private List<Integer> used() {
        List<Integer> t = tape;
        tape = new ArrayList<>();
        return t;
    }

    private String usedText() {
        StringBuilder s = new StringBuilder();
        used().forEach(b -> s.append((char) b.intValue()));
        return s.toString();
    }

    int land() {
        World to = w.copy();
        fault = -1;
        try {
            Things t = new Things(usedText());
            for (int line = 0; t.next < t.what.size() || line > 0; line++) {
                if (line == 14) {
                    throw new Wrong(t.at());
                }
                landLine(t, to);
                if (t.next == t.what.size()) {
                    break;
                }
                t.must(";");
            }
        } catch (Wrong e) {
            fault = e.at;
            throw new IllegalArgumentException();
        }
        if (w.texts == 12) {
            throw new UnsupportedOperationException();
        }
        to.texts++;
        w = to;
        past.clear();
        return w.texts;
    }

    private void landLine(Things t, World to) throws Wrong {
        int begin = t.at();
        int people = to.people.size();
        if (t.skip("person")) {
            if (people == 6) {
                throw new Wrong(begin);
            }
            Person p = new Person();
            p.purse = t.number(0, 999);
            t.must("pace");
            p.pace = t.number(1, 9);
            t.must("at");
            p.place = t.number(0, 19);
            p.goal = p.place;
            to.people.add(p);
            to.laces.add(new Lace());
            to.laces.add(new Lace());
        } else if (t.skip("pledge")) {
            int at = t.at();
            int l = t.number(0, 2 * people - 1);
            if (to.laces.get(l).how != 0) {
                throw new Wrong(at);
            }
            Lace it = new Lace();
            it.how = 1;
            t.must("to");
            at = t.at();
            it.holder = t.number(0, people - 1);
            if (it.holder == l / 2) {
                throw new Wrong(at);
            }
            t.must("for");
            it.amount = t.number(1, 999);
            t.must("knot");
            it.knot = t.number(0, 9);
            t.must("till");
            it.term = t.number(1, 999);
            if (t.skip("by")) {
                at = t.at();
                it.surety = t.number(0, people - 1);
                if (it.surety == l / 2 || it.surety == it.holder) {
                    throw new Wrong(at);
                }
            }
            to.laces.set(l, it);
        } else if (t.skip("mud")) {
            int place = t.number(0, 19);
            to.mud[place] = t.number(0, 9);
        } else if (t.skip("goal")) {
            int p = t.number(0, people - 1);
            to.people.get(p).goal = t.number(0, 19);
        } else if (t.skip("fine")) {
            to.fine = t.number(0, 99);
        } else if (t.skip("day")) {
            to.day = t.number(0, 999);
        } else {
            throw new Wrong(begin);
        }
    }

    int law() {
        List<Rule> rules = new ArrayList<>();
        fault = -1;
        try {
            Things t = new Things(usedText());
            for (int line = 0; t.next < t.what.size() || line > 0; line++) {
                if (line == 12 || !List.of("slow", "grow", "fall").contains(t.peek())) {
                    throw new Wrong(t.at());
                }
                String kind = t.what.get(t.next++);
                int n = t.number(0, 99);
                rules.add(new Rule(kind, n, t.skip("if") ? any(t, 0) : (to, p) -> true));
                if (t.next == t.what.size()) {
                    break;
                }
                t.must(";");
            }
        } catch (Wrong e) {
            fault = e.at;
            throw new IllegalArgumentException();
        }
        w.law = rules;
        past.clear();
        return rules.size();
    }

    private Condition any(Things t, int deep) throws Wrong {
        List<Condition> parts = new ArrayList<>();
        do {
            parts.add(each(t, deep));
        } while (t.skip("or"));
        return (to, p) -> parts.stream().anyMatch(c -> c.holds(to, p));
    }

    private Condition each(Things t, int deep) throws Wrong {
        List<Condition> parts = new ArrayList<>();
        do {
            parts.add(atom(t, deep));
        } while (t.skip("and"));
        return (to, p) -> parts.stream().allMatch(c -> c.holds(to, p));
    }

    private Condition atom(Things t, int deep) throws Wrong {
        if (deep == 6 && (t.peek().equals("not") || t.peek().equals("("))) {
            throw new Wrong(t.at());
        }
        if (t.skip("not")) {
            Condition c = atom(t, deep + 1);
            return (to, p) -> !c.holds(to, p);
        }
        if (t.skip("(")) {
            Condition c = any(t, deep + 1);
            t.must(")");
            return c;
        }
        if (t.skip("even")) {
            return (to, p) -> to.slack(p) % 2 == 0;
        }
        if (t.skip("there")) {
            return (to, p) -> to.people.get(p).place == to.people.get(p).goal;
        }
        List<ToIntFunction<Object[]>> left = sum(t);
        boolean less = t.peek().equals("<");
        t.must(less ? "<" : ">");
        List<ToIntFunction<Object[]>> right = sum(t);
        return (to, p) -> less ? add(left, to, p) < add(right, to, p) : add(left, to, p) > add(right, to, p);
    }

    private static int add(List<ToIntFunction<Object[]>> parts, World to, int p) {
        return parts.stream().mapToInt(f -> f.applyAsInt(new Object[] {to, p})).sum();
    }

    private List<ToIntFunction<Object[]>> sum(Things t) throws Wrong {
        List<ToIntFunction<Object[]>> parts = new ArrayList<>();
        do {
            int at = t.at();
            String word = t.peek();
            if (word.matches("[0-9]+")) {
                int n = t.number(0, 999);
                parts.add(o -> n);
                continue;
            }
            t.next++;
            switch (word) {
                case "who" -> parts.add(o -> (Integer) o[1]);
                case "slack" -> parts.add(o -> ((World) o[0]).slack((Integer) o[1]));
                case "held" -> parts.add(o -> Integer.bitCount(((World) o[0]).held((Integer) o[1])));
                case "place" -> parts.add(o -> ((World) o[0]).people.get((Integer) o[1]).place);
                case "mud" -> parts.add(o -> ((World) o[0]).mud[((World) o[0]).people.get((Integer) o[1]).place]);
                case "tired" -> parts.add(o -> ((World) o[0]).people.get((Integer) o[1]).tired);
                case "day" -> parts.add(o -> ((World) o[0]).day);
                default -> throw new Wrong(at);
            }
        } while (t.skip("+"));
        return parts;
    }

    private void people(int... all) {
        for (int p : all) {
            if (p < 0 || p >= w.people.size()) {
                throw new IndexOutOfBoundsException();
            }
        }
    }

    private void laces(int l) {
        if (l < 0 || l >= w.laces.size()) {
            throw new IndexOutOfBoundsException();
        }
    }

    private static void places(int p) {
        if (p < 0 || p > 19) {
            throw new IndexOutOfBoundsException();
        }
    }

    private static void argument(boolean fine) {
        if (!fine) {
            throw new IllegalArgumentException();
        }
    }

    private static void state(boolean fine) {
        if (!fine) {
            throw new IllegalStateException();
        }
    }

    private static void element(int what, int most) {
        if (what < 0 || what > most) {
            throw new NoSuchElementException();
        }
    }

    private int amounts(int set) {
        int s = 0;
        for (int l = 0; l < w.laces.size(); l++) {
            if ((set >> l & 1) == 1 && w.laces.get(l).how == 1) {
                s += w.laces.get(l).amount;
            }
        }
        return s;
    }

    private int own(int p) {
        return 1 << 2 * p | 1 << 2 * p + 1;
    }

    int person(int p, int what) {
        people(p);
        element(what, 10);
        Person it = w.people.get(p);
        int owes = amounts(own(p));
        int due = amounts(w.held(p));
        int lost = Integer.bitCount(w.lost());
        int share = lost == 0 ? 0 : (int) Math.floor(Integer.bitCount(w.lost() & w.held(p)) * 100.0 / lost);
        int gait = (w.laces.get(2 * p).how != 0 ? 1 : 0) + (w.laces.get(2 * p + 1).how != 0 ? 2 : 0);
        return new int[] {it.purse, it.pace, it.place, it.goal, it.tired, gait, w.held(p), owes, due, it.purse + due - owes, share}[what];
    }

    int lace(int l, int what) {
        laces(l);
        element(what, 5);
        Lace it = w.laces.get(l);
        return new int[] {it.how, it.holder, it.amount, it.knot, it.term, it.surety}[what];
    }

    int mud(int place) {
        places(place);
        return w.mud[place];
    }

    int walks(int p, int what) {
        people(p);
        element(what, 1);
        return what == 0 ? w.walks(p) : w.falls(p);
    }

    int grows(int l) {
        laces(l);
        return w.laces.get(l).how == 1 ? w.grows(l) : 0;
    }

    private void act() {
        past.push(w.copy());
        if (past.size() > 12) {
            past.removeLast();
        }
    }

    int lend(int h, int l, int amount, int knot, int term) {
        people(h);
        laces(l);
        argument(h != l / 2 && amount >= 1 && amount <= 999 && knot >= 0 && knot <= 9 && term >= 1 && term <= 9999);
        state(w.laces.get(l).how == 0 && w.people.get(h).purse >= amount);
        act();
        w.people.get(h).purse -= amount;
        Person owner = w.people.get(l / 2);
        owner.purse = Math.min(999, owner.purse + amount);
        Lace it = new Lace();
        it.how = 1;
        it.holder = h;
        it.amount = amount;
        it.knot = knot;
        it.term = term;
        w.laces.set(l, it);
        w.note(l, 0, amount);
        return w.people.get(h).purse;
    }

    int pay(int l) {
        laces(l);
        Lace it = w.laces.get(l);
        state(it.how == 1 && w.people.get(l / 2).purse >= it.amount);
        act();
        w.paid(l, l / 2);
        return it.amount;
    }

    int surety(int l, int p) {
        laces(l);
        Lace it = w.laces.get(l);
        if (p != -1) {
            people(p);
            argument(p != l / 2 && p != it.holder);
        }
        state(it.how == 1);
        act();
        int was = it.surety;
        it.surety = p;
        return was;
    }

    int give(int l, int p) {
        laces(l);
        people(p);
        Lace it = w.laces.get(l);
        argument(p != l / 2 && p != it.holder && p != it.surety);
        state(it.how == 1 && w.people.get(p).purse >= it.amount);
        act();
        int was = it.holder;
        w.people.get(p).purse -= it.amount;
        w.people.get(was).purse = Math.min(999, w.people.get(was).purse + it.amount);
        it.holder = p;
        return was;
    }

    int goal(int p, int place) {
        people(p);
        places(place);
        act();
        int was = w.people.get(p).goal;
        w.people.get(p).goal = place;
        return was;
    }

    int rest(int p) {
        people(p);
        act();
        int was = w.people.get(p).tired;
        w.people.get(p).tired = 0;
        return was;
    }

    int days(int n) {
        argument(n >= 1 && n <= 60);
        act();
        int was = w.falls;
        w = w.later(n, true);
        return w.falls - was;
    }

    int solvent() {
        return w.set(p -> w.people.get(p).purse >= amounts(own(p)), w.people.size());
    }

    int comes(int p, int place) {
        people(p);
        places(place);
        return w.comes(p, place);
    }

    int soonest(int place) {
        places(place);
        List<Integer> all = new ArrayList<>();
        for (int p = 0; p < w.people.size(); p++) {
            all.add(w.comes(p, place));
        }
        return all.stream().filter(n -> n >= 0).min(Integer::compare).map(all::indexOf).orElse(-1);
    }

    private int[] bestWay;
    private int bestSum;

    private void ways(int[][] needs, int[] way, int p, int sum, int taken) {
        if (p == way.length) {
            if (bestWay == null || sum < bestSum) {
                bestWay = way.clone();
                bestSum = sum;
            }
            return;
        }
        for (int q = 0; q < way.length; q++) {
            if ((taken >> q & 1) == 0 && needs[p][q] >= 0) {
                way[p] = q;
                ways(needs, way, p + 1, sum + needs[p][q], taken | 1 << q);
            }
        }
    }

    int carry(int p) {
        List<Integer> t = used();
        if (p != -1) {
            people(p);
        }
        int n = w.people.size();
        argument(t.size() == n && t.stream().allMatch(b -> b <= 19));
        int[][] needs = new int[n][n];
        for (int i = 0; i < n; i++) {
            for (int j = 0; j < n; j++) {
                needs[i][j] = w.comes(i, t.get(j));
            }
        }
        bestWay = null;
        ways(needs, new int[n], 0, 0, 0);
        return bestWay == null ? -1 : p == -1 ? bestSum : bestWay[p];
    }

    int ahead(int p, int n, boolean purse) {
        people(p);
        argument(n >= 0 && n <= 60);
        Person it = w.later(n, false).people.get(p);
        return purse ? it.purse : it.place;
    }

    private List<Integer> ringSets() {
        List<Integer> all = new ArrayList<>();
        int pledged = w.pledged();
        for (int set = pledged; set > 0; set = set - 1 & pledged) {
            boolean fine = true;
            for (int p = 0; p < w.people.size() && fine; p++) {
                fine = amounts(set & own(p)) == amounts(set & w.held(p));
            }
            if (fine) {
                all.add(set);
            }
        }
        return all;
    }

    int rings() {
        return ringSets().size();
    }

    int untie(boolean many) {
        int best = 0;
        for (int set : ringSets()) {
            int a = Integer.bitCount(set);
            int b = Integer.bitCount(best);
            if (a > b || a == b && set < best) {
                best = set;
            }
        }
        return many ? Integer.bitCount(best) : best;
    }

    private void follow(int p, Set<Integer> seen) {
        for (int l = 2 * p; l <= 2 * p + 1; l++) {
            if (w.laces.get(l).how == 1 && seen.add(w.laces.get(l).holder)) {
                follow(w.laces.get(l).holder, seen);
            }
        }
    }

    int leads(int p) {
        people(p);
        Set<Integer> seen = new HashSet<>();
        follow(p, seen);
        return seen.stream().mapToInt(q -> 1 << q).sum();
    }

    boolean owes(int p, int other) {
        people(p, other);
        argument(p != other);
        return (leads(p) >> other & 1) == 1;
    }

    int call(int p, boolean much) {
        people(p);
        int mine = w.pledged() & w.held(p);
        int best = 0;
        for (int set = 0; set < 4096; set++) {
            if ((set & ~mine) != 0) {
                continue;
            }
            boolean fine = true;
            for (int q = 0; q < w.people.size(); q++) {
                fine &= amounts(set & own(q)) <= w.people.get(q).purse;
            }
            if (fine && amounts(set) > amounts(best)) {
                best = set;
            }
        }
        return much ? amounts(best) : best;
    }

    int breaks(int n) {
        argument(n >= 0 && n <= 60);
        return w.later(n, false).lost() & ~w.lost();
    }

    int mercy(int l) {
        laces(l);
        if (w.laces.get(l).how != 1) {
            return -1;
        }
        for (int d = 0; d <= 30; d++) {
            World to = w.copy();
            to.laces.get(l).term = Math.min(9999, to.laces.get(l).term + d);
            if (to.later(60, false).laces.get(l).how != 2) {
                return d;
            }
        }
        return -1;
    }

    int hangs(int p) {
        people(p);
        return w.set(l -> w.laces.get(l).how == 1 && w.laces.get(l).surety == p, w.laces.size());
    }

    int trust() {
        int best = -1;
        for (int p = w.people.size() - 1; p >= 0; p--) {
            if (hangs(p) != 0 && (best < 0 || amounts(hangs(p)) >= amounts(hangs(best)))) {
                best = p;
            }
        }
        return best;
    }

    int needed() {
        for (int many = 0; many <= w.people.size(); many++) {
            for (int set = 0; set < 1 << w.people.size(); set++) {
                boolean fine = Integer.bitCount(set) == many;
                for (int l = 0; l < w.laces.size() && fine; l++) {
                    Lace it = w.laces.get(l);
                    fine = it.how != 1 || (set >> l / 2 & 1) == 1 || (set >> it.holder & 1) == 1
                            || it.surety >= 0 && (set >> it.surety & 1) == 1;
                }
                if (fine) {
                    return set;
                }
            }
        }
        throw new AssertionError();
    }

    private List<Integer> fitting() {
        List<Integer> t = used();
        int n = w.people.size();
        argument(t.size() <= 36 && t.size() % 3 == 0);
        for (int i = 0; i < t.size(); i += 3) {
            argument(t.get(i) < n && t.get(i + 1) < n && t.get(i) <= t.get(i + 1));
        }
        List<Integer> sets = new ArrayList<>();
        for (int set = 0; set < 1 << n; set++) {
            boolean fine = true;
            for (int i = 0; i < t.size(); i += 3) {
                int many = 0;
                for (int p = t.get(i); p <= t.get(i + 1); p++) {
                    many += set >> p & 1;
                }
                fine &= many == t.get(i + 2);
            }
            if (fine) {
                sets.add(set);
            }
        }
        return sets;
    }

    int wear(boolean sure) {
        List<Integer> sets = fitting();
        return !sure ? sets.size() : sets.stream().reduce((a, b) -> a & b).orElse(0);
    }

    int look() {
        List<Integer> sets = fitting();
        int best = -1;
        long least = Long.MAX_VALUE;
        for (int p = 0; p < w.people.size() && sets.size() >= 2; p++) {
            int q = p;
            long in = sets.stream().filter(s -> (s >> q & 1) == 1).count();
            long greater = Math.max(in, sets.size() - in);
            if (greater < least) {
                least = greater;
                best = p;
            }
        }
        return best;
    }

    int race(int p) {
        people(p);
        return w.set(q -> q != p && w.walks(q) == w.walks(p), w.people.size());
    }

    int pairs() {
        int[] of = new int[10];
        for (int p = 0; p < w.people.size(); p++) {
            of[w.walks(p)]++;
        }
        return java.util.Arrays.stream(of).map(n -> n / 2).sum();
    }

    int lends(int amount) {
        argument(amount >= 1 && amount <= 999);
        return w.set(p -> {
            boolean other = false;
            for (int l = 0; l < w.laces.size(); l++) {
                other |= l / 2 != p && w.laces.get(l).how == 0;
            }
            return other && w.people.get(p).purse >= amount;
        }, w.people.size());
    }

    int loose(int p) {
        people(p);
        return w.laces.subList(2 * p, 2 * p + 2).stream().filter(l -> l.how == 1).mapToInt(l -> l.amount).min().orElse(-1);
    }

    int rail() {
        return w.lost();
    }

    int trial(int n, boolean lost) {
        argument(n >= 0 && n <= 60);
        World to = w.later(n, true);
        return lost ? to.lost() : to.falls - w.falls;
    }

    int span(int n, boolean most) {
        argument(n >= 0 && n <= 60);
        List<Integer> all = new ArrayList<>();
        for (int s = 1; s <= 6; s++) {
            World to = w.copy();
            to.seed = s;
            all.add(to.later(n, true).falls - w.falls);
        }
        return most ? java.util.Collections.max(all) : java.util.Collections.min(all);
    }

    int led(int l, boolean day) {
        laces(l);
        List<Row> rows = w.log.stream().filter(r -> r.lace == l).toList();
        return !day ? rows.size() : rows.isEmpty() ? -1 : rows.get(rows.size() - 1).day;
    }

    int log(int ago, int what) {
        element(what, 3);
        if (ago < 0 || ago >= w.log.size()) {
            return -1;
        }
        Row r = w.log.get(w.log.size() - 1 - ago);
        return new int[] {r.day, r.lace, r.what, r.amount}[what];
    }

    int seed(int n) {
        int was = w.seed;
        w.seed = n;
        return was;
    }

    boolean undo() {
        if (past.isEmpty()) {
            return false;
        }
        w = past.pop();
        return true;
    }

    boolean image() {
        image = w.copy();
        return true;
    }

    boolean back() {
        if (image == null) {
            return false;
        }
        w = image.copy();
        past.clear();
        return true;
    }

    int count(int what) {
        int purses = w.people.stream().mapToInt(p -> p.purse).sum();
        int[] all = {w.people.size(), w.texts, w.law == null ? -1 : w.law.size(), w.day, w.fine, w.pledged(), amounts(w.pledged()),
            purses, w.falls, w.log.size(), past.size()};
        return what < 0 || what >= all.length ? -1 : all[what];
    }
}
