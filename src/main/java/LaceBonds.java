import java.util.NoSuchElementException;

/** A walking land where who owes gives a lace; README.md says how it is used. */
public final class LaceBonds {
    public static final int NONE = -1;

    private static final int MOST_PEOPLE = 6;
    private static final int MOST_LACES = 12;
    private static final int PLACES = 20;
    private static final int MOST_TAPE = 400;
    private static final int MOST_MONEY = 999;
    private static final int MOST_KNOT = 9;
    private static final int MOST_TIRED = 9;
    private static final int LAST_DAY = 9999;
    private static final int MOST_TEXTS = 12;
    private static final int LAND_LINES = 14;
    private static final int LAW_LINES = 12;
    private static final int LOG_ROWS = 60;
    private static final int MOST_ACTS = 12;
    private static final int MOST_AHEAD = 60;
    private static final int MOST_MERCY = 30;
    private static final int LAST_SEED_OF_SPAN = 6;

    private static final int IN_SHOE = 0;
    private static final int PLEDGED = 1;
    private static final int LOST = 2;

    private static final int WENT_TO_HOLDER = 0;
    private static final int WENT_BACK = 1;
    private static final int WENT_FOR_GOOD = 2;

    private final Tape tape = new Tape();
    private final Land now = new Land();
    /** What is only asked is tried here, so that nothing of it stays. */
    private final Land tried = new Land();
    private final Land imageLand = new Land();
    private final Law rules = new Law();
    private final Law triedRules = new Law();
    private final Law imageRules = new Law();
    private final LandReader landReader = new LandReader(tape, tried);
    private final LawReader lawReader = new LawReader(tape, triedRules);
    private final Acts acts = new Acts();
    private final Rings ringSeeker = new Rings();
    private final Ways ways = new Ways();
    private final Wearers wearers = new Wearers(tape);
    private boolean imageKept = false;

    public LaceBonds() {
    }

    public int feed(int a, int b, int c, int d, int e) {
        if (tape.size + 20 > MOST_TAPE) {
            return NONE;
        }
        tape.add(a);
        tape.add(b);
        tape.add(c);
        tape.add(d);
        tape.add(e);
        return tape.size;
    }

    public boolean end(int n) {
        if (n < 0 || n > tape.size) {
            return false;
        }
        tape.size = n;
        return true;
    }

    public int land() throws IllegalArgumentException, UnsupportedOperationException {
        tried.copyFrom(now);
        landReader.readAll();
        if (!tape.isRight()) {
            throw new IllegalArgumentException("the text of the land is wrong");
        }
        if (now.texts >= MOST_TEXTS) {
            throw new UnsupportedOperationException("there are 12 texts");
        }
        now.copyFrom(tried);
        now.texts++;
        acts.forget();
        return now.texts;
    }

    public int law() throws IllegalArgumentException {
        triedRules.clear();
        lawReader.readAll();
        if (!tape.isRight()) {
            throw new IllegalArgumentException("the text of the law is wrong");
        }
        triedRules.told = true;
        rules.copyFrom(triedRules);
        acts.forget();
        return rules.lines;
    }

    public int fault() {
        return tape.wrong;
    }

    public int person(int person, int what) throws IndexOutOfBoundsException, NoSuchElementException {
        needPerson(person);
        switch (what) {
            case 0: return now.purse[person];
            case 1: return now.pace[person];
            case 2: return now.place[person];
            case 3: return now.goal[person];
            case 4: return now.tired[person];
            case 5: return now.gaitOf(person);
            case 6: return now.heldBy(person);
            case 7: return now.owedBy(person);
            case 8: return now.dueTo(person);
            case 9: return now.purse[person] + now.dueTo(person) - now.owedBy(person);
            case 10: return now.shareOf(person);
            default: throw new NoSuchElementException("no such thing of a person");
        }
    }

    public int lace(int lace, int what) throws IndexOutOfBoundsException, NoSuchElementException {
        needLace(lace);
        switch (what) {
            case 0: return now.how[lace];
            case 1: return now.holder[lace];
            case 2: return now.amount[lace];
            case 3: return now.knot[lace];
            case 4: return now.term[lace];
            case 5: return now.surety[lace];
            default: throw new NoSuchElementException("no such thing of a lace");
        }
    }

    public int mud(int place) throws IndexOutOfBoundsException {
        needPlace(place);
        return now.mud[place];
    }

    public int walks(int person, int what) throws IndexOutOfBoundsException, NoSuchElementException {
        needPerson(person);
        switch (what) {
            case 0: return now.walkOf(person, rules);
            case 1: return now.fallOf(person, rules);
            default: throw new NoSuchElementException("no such thing of a walk");
        }
    }

    public int grows(int lace) throws IndexOutOfBoundsException {
        needLace(lace);
        return now.isPledged(lace) ? now.growthOf(lace, rules) : 0;
    }

    public int lend(int holder, int lace, int amount, int knot, int term)
            throws IndexOutOfBoundsException, IllegalArgumentException, IllegalStateException {
        needPerson(holder);
        needLace(lace);
        if (holder == ownerOf(lace) || isOutside(amount, 1, MOST_MONEY)
                || isOutside(knot, 0, MOST_KNOT) || isOutside(term, 1, LAST_DAY)) {
            throw new IllegalArgumentException("no such loan");
        }
        if (now.how[lace] != IN_SHOE || now.purse[holder] < amount) {
            throw new IllegalStateException("it cannot be lent");
        }
        acts.remember(now);
        now.purse[holder] -= amount;
        now.earn(ownerOf(lace), amount);
        now.pledge(lace, holder, amount, knot, term, NONE);
        now.book.add(now.day, lace, WENT_TO_HOLDER, amount);
        return now.purse[holder];
    }

    public int pay(int lace) throws IndexOutOfBoundsException, IllegalStateException {
        needLace(lace);
        int owner = ownerOf(lace);
        if (!now.isPledged(lace) || now.purse[owner] < now.amount[lace]) {
            throw new IllegalStateException("it cannot be paid");
        }
        acts.remember(now);
        int amount = now.amount[lace];
        now.payOff(lace, owner);
        return amount;
    }

    public int surety(int lace, int person)
            throws IndexOutOfBoundsException, IllegalArgumentException, IllegalStateException {
        needLace(lace);
        if (person != NONE) {
            needPerson(person);
            if (person == ownerOf(lace) || person == now.holder[lace]) {
                throw new IllegalArgumentException("owner and holder are no surety");
            }
        }
        needPledged(lace);
        acts.remember(now);
        int before = now.surety[lace];
        now.surety[lace] = person;
        return before;
    }

    public int give(int lace, int person)
            throws IndexOutOfBoundsException, IllegalArgumentException, IllegalStateException {
        needLace(lace);
        needPerson(person);
        if (person == ownerOf(lace) || person == now.holder[lace] || person == now.surety[lace]) {
            throw new IllegalArgumentException("it cannot be given to that one");
        }
        needPledged(lace);
        if (now.purse[person] < now.amount[lace]) {
            throw new IllegalStateException("the purse is less");
        }
        acts.remember(now);
        int before = now.holder[lace];
        now.purse[person] -= now.amount[lace];
        now.earn(before, now.amount[lace]);
        now.holder[lace] = person;
        return before;
    }

    public int goal(int person, int place) throws IndexOutOfBoundsException {
        needPerson(person);
        needPlace(place);
        acts.remember(now);
        int before = now.goal[person];
        now.goal[person] = place;
        return before;
    }

    public int rest(int person) throws IndexOutOfBoundsException {
        needPerson(person);
        acts.remember(now);
        int before = now.tired[person];
        now.tired[person] = 0;
        return before;
    }

    public int days(int n) throws IllegalArgumentException {
        if (isOutside(n, 1, MOST_AHEAD)) {
            throw new IllegalArgumentException("no such days");
        }
        acts.remember(now);
        return now.liveOn(n, rules, true);
    }

    public int solvent() {
        int set = 0;
        for (int person = 0; person < now.people; person++) {
            if (now.purse[person] >= now.owedBy(person)) {
                set |= 1 << person;
            }
        }
        return set;
    }

    public int comes(int person, int place) throws IndexOutOfBoundsException {
        needPerson(person);
        needPlace(place);
        return daysTo(person, place);
    }

    public int soonest(int place) throws IndexOutOfBoundsException {
        needPlace(place);
        int first = NONE;
        int least = MOST_AHEAD + 1;
        for (int person = 0; person < now.people; person++) {
            int needs = daysTo(person, place);
            if (needs != NONE && needs < least) {
                least = needs;
                first = person;
            }
        }
        return first;
    }

    public int carry(int person) throws IndexOutOfBoundsException, IllegalArgumentException {
        int size = tape.useUp();
        if (person != NONE) {
            needPerson(person);
        }
        if (!tellsPlaces(size)) {
            throw new IllegalArgumentException("not a place for each person");
        }
        for (int one = 0; one < now.people; one++) {
            for (int at = 0; at < now.people; at++) {
                ways.tell(one, at, daysTo(one, tape.bytes[at]));
            }
        }
        ways.weigh(now.people);
        return person == NONE ? ways.leastOfAll() : ways.partOf(person);
    }

    public int ahead(int person, int n, boolean purse) throws IndexOutOfBoundsException, IllegalArgumentException {
        needPerson(person);
        needAhead(n);
        tried.copyFrom(now);
        tried.liveOn(n, rules, false);
        return purse ? tried.purse[person] : tried.place[person];
    }

    public int rings() {
        ringSeeker.seek(now);
        return ringSeeker.found;
    }

    public int untie(boolean many) {
        ringSeeker.seek(now);
        return many ? Integer.bitCount(ringSeeker.best) : ringSeeker.best;
    }

    public boolean owes(int person, int other) throws IndexOutOfBoundsException, IllegalArgumentException {
        needPerson(person);
        needPerson(other);
        if (person == other) {
            throw new IllegalArgumentException("both are one");
        }
        return hasBit(now.creditorsOf(person), other);
    }

    public int leads(int person) throws IndexOutOfBoundsException {
        needPerson(person);
        return now.creditorsOf(person);
    }

    public int call(int person, boolean much) throws IndexOutOfBoundsException {
        needPerson(person);
        int set = 0;
        for (int owner = 0; owner < now.people; owner++) {
            set |= now.callable(person, owner);
        }
        return much ? now.amountOf(set) : set;
    }

    public int breaks(int n) throws IllegalArgumentException {
        needAhead(n);
        tried.copyFrom(now);
        tried.liveOn(n, rules, false);
        return tried.lacesThatAre(LOST) & ~now.lacesThatAre(LOST);
    }

    public int mercy(int lace) throws IndexOutOfBoundsException {
        needLace(lace);
        if (!now.isPledged(lace)) {
            return NONE;
        }
        for (int later = 0; later <= MOST_MERCY; later++) {
            if (isSpared(lace, later)) {
                return later;
            }
        }
        return NONE;
    }

    public int hangs(int person) throws IndexOutOfBoundsException {
        needPerson(person);
        return now.hangingOn(person);
    }

    public int trust() {
        int one = NONE;
        int most = 0;
        for (int person = 0; person < now.people; person++) {
            int amount = now.amountOf(now.hangingOn(person));
            if (amount > most) {
                most = amount;
                one = person;
            }
        }
        return one;
    }

    public int needed() {
        int best = (1 << now.people) - 1;
        for (int set = best; set >= 0; set--) {
            if (Integer.bitCount(set) <= Integer.bitCount(best) && now.isInEachPledge(set)) {
                best = set;
            }
        }
        return best;
    }

    public int wear(boolean sure) throws IllegalArgumentException {
        needWearers(tape.useUp());
        return sure ? wearers.inAll : wearers.count;
    }

    public int look() throws IllegalArgumentException {
        needWearers(tape.useUp());
        return wearers.parting();
    }

    public int race(int person) throws IndexOutOfBoundsException {
        needPerson(person);
        int speed = now.walkOf(person, rules);
        int set = 0;
        for (int other = 0; other < now.people; other++) {
            if (other != person && now.walkOf(other, rules) == speed) {
                set |= 1 << other;
            }
        }
        return set;
    }

    public int pairs() {
        int races = 0;
        int waiting = 0;
        for (int person = 0; person < now.people; person++) {
            // Of each speed one bit: whoever finds one of the same speed waiting runs with that one.
            int speed = 1 << now.walkOf(person, rules);
            if ((waiting & speed) != 0) {
                races++;
            }
            waiting ^= speed;
        }
        return races;
    }

    public int lends(int amount) throws IllegalArgumentException {
        if (isOutside(amount, 1, MOST_MONEY)) {
            throw new IllegalArgumentException("no such amount");
        }
        int free = now.lacesThatAre(IN_SHOE);
        int set = 0;
        for (int person = 0; person < now.people; person++) {
            if (now.purse[person] >= amount && (free & ~lacesOf(person)) != 0) {
                set |= 1 << person;
            }
        }
        return set;
    }

    public int loose(int person) throws IndexOutOfBoundsException {
        needPerson(person);
        int least = NONE;
        for (int lace = 2 * person; lace <= 2 * person + 1; lace++) {
            if (now.isPledged(lace) && (least == NONE || now.amount[lace] < least)) {
                least = now.amount[lace];
            }
        }
        return least;
    }

    public int rail() {
        return now.lacesThatAre(LOST);
    }

    public int trial(int n, boolean lost) throws IllegalArgumentException {
        needAhead(n);
        tried.copyFrom(now);
        int fell = tried.liveOn(n, rules, true);
        return lost ? tried.lacesThatAre(LOST) : fell;
    }

    public int span(int n, boolean most) throws IllegalArgumentException {
        needAhead(n);
        int fewest = MOST_AHEAD * MOST_PEOPLE;
        int highest = 0;
        for (int start = 1; start <= LAST_SEED_OF_SPAN; start++) {
            tried.copyFrom(now);
            tried.seed = start;
            int fell = tried.liveOn(n, rules, true);
            fewest = Math.min(fewest, fell);
            highest = Math.max(highest, fell);
        }
        return most ? highest : fewest;
    }

    public int led(int lace, boolean day) throws IndexOutOfBoundsException {
        needLace(lace);
        return day ? now.book.latestDayOf(lace) : now.book.rowsOf(lace);
    }

    public int log(int ago, int what) throws NoSuchElementException {
        if (isOutside(what, 0, 3)) {
            throw new NoSuchElementException("no such thing of a row");
        }
        if (ago < 0 || ago >= now.book.size) {
            return NONE;
        }
        switch (what) {
            case 0: return now.book.dayAt(ago);
            case 1: return now.book.laceAt(ago);
            case 2: return now.book.whatAt(ago);
            default: return now.book.amountAt(ago);
        }
    }

    public int seed(int n) {
        int before = now.seed;
        now.seed = n;
        return before;
    }

    public boolean undo() {
        return acts.takeBack(now);
    }

    public void image() {
        imageLand.copyFrom(now);
        imageRules.copyFrom(rules);
        imageKept = true;
    }

    public boolean back() {
        if (!imageKept) {
            return false;
        }
        now.copyFrom(imageLand);
        rules.copyFrom(imageRules);
        acts.forget();
        return true;
    }

    public int count(int what) {
        switch (what) {
            case 0: return now.people;
            case 1: return now.texts;
            case 2: return rules.told ? rules.lines : NONE;
            case 3: return now.day;
            case 4: return now.fine;
            case 5: return now.lacesThatAre(PLEDGED);
            case 6: return now.amountOf(now.lacesThatAre(PLEDGED));
            case 7: return now.allPurses();
            case 8: return now.falls;
            case 9: return now.book.size;
            case 10: return acts.count;
            default: return NONE;
        }
    }

    private void needPerson(int person) {
        if (isOutside(person, 0, now.people - 1)) {
            throw new IndexOutOfBoundsException("no such person");
        }
    }

    private void needLace(int lace) {
        if (isOutside(lace, 0, 2 * now.people - 1)) {
            throw new IndexOutOfBoundsException("no such lace");
        }
    }

    private void needPlace(int place) {
        if (isOutside(place, 0, PLACES - 1)) {
            throw new IndexOutOfBoundsException("no such place");
        }
    }

    private void needPledged(int lace) {
        if (!now.isPledged(lace)) {
            throw new IllegalStateException("it is not pledged");
        }
    }

    private void needAhead(int n) {
        if (isOutside(n, 0, MOST_AHEAD)) {
            throw new IllegalArgumentException("no such days ahead");
        }
    }

    private void needWearers(int size) {
        if (!wearers.areTold(size, now.people)) {
            throw new IllegalArgumentException("no rows of people");
        }
        wearers.seek(size, now.people);
    }

    /** COMES: all others go on by their own goals meanwhile. */
    private int daysTo(int person, int place) {
        tried.copyFrom(now);
        tried.goal[person] = place;
        for (int n = 0; n <= MOST_AHEAD; n++) {
            if (tried.place[person] == place) {
                return n;
            }
            tried.liveOn(1, rules, false);
        }
        return NONE;
    }

    private boolean isSpared(int lace, int later) {
        tried.copyFrom(now);
        tried.term[lace] = Math.min(LAST_DAY, now.term[lace] + later);
        // What is lost or back in its shoe stays so, as nobody lends ahead.
        for (int n = 0; n < MOST_AHEAD && tried.isPledged(lace); n++) {
            tried.liveOn(1, rules, false);
        }
        return tried.how[lace] != LOST;
    }

    private boolean tellsPlaces(int size) {
        if (size != now.people) {
            return false;
        }
        for (int i = 0; i < size; i++) {
            if (tape.bytes[i] >= PLACES) {
                return false;
            }
        }
        return true;
    }

    private static int ownerOf(int lace) {
        return lace >> 1;
    }

    private static int lacesOf(int person) {
        return 3 << (2 * person);
    }

    private static boolean hasBit(int set, int number) {
        return (set >> number & 1) != 0;
    }

    private static boolean isOutside(int number, int least, int most) {
        return number < least || number > most;
    }

    /** The bytes that were fed; what was used up can be read as a text, thing by thing, till the next are fed. */
    private static final class Tape {
        final int[] bytes = new int[MOST_TAPE];
        int size = 0;
        private int length = 0;
        /** Always the begin of a thing, or the text's length. */
        private int at = 0;
        private int wrong = NONE;

        void add(int four) {
            for (int shift = 24; shift >= 0 && size < MOST_TAPE; shift -= 8) {
                bytes[size] = four >>> shift & 255;
                size++;
            }
        }

        int useUp() {
            int used = size;
            size = 0;
            return used;
        }

        void openText() {
            length = useUp();
            wrong = NONE;
            moveTo(0);
        }

        boolean isRight() {
            return wrong == NONE;
        }

        boolean isOver() {
            return at >= length;
        }

        /** Only the first wrong byte counts; from then on no word and no sign is found. */
        void refuse(int place) {
            if (wrong == NONE) {
                wrong = place;
            }
        }

        boolean takesWord(String word) {
            int run = runOf('a', 'z');
            if (wrong != NONE || run != word.length()) {
                return false;
            }
            for (int i = 0; i < run; i++) {
                if (bytes[at + i] != word.charAt(i)) {
                    return false;
                }
            }
            moveTo(at + run);
            return true;
        }

        boolean takesSign(char sign) {
            if (wrong != NONE || at >= length || bytes[at] != sign) {
                return false;
            }
            moveTo(at + 1);
            return true;
        }

        void needWord(String word) {
            if (!takesWord(word)) {
                refuse(at);
            }
        }

        void needSign(char sign) {
            if (!takesSign(sign)) {
                refuse(at);
            }
        }

        /** What is answered counts only if the text is still right. */
        int takeNumber(int least, int most) {
            int run = runOf('0', '9');
            if (run < 1 || run > 3) {
                refuse(at);
                return least;
            }
            int number = 0;
            for (int i = 0; i < run; i++) {
                number = 10 * number + bytes[at + i] - '0';
            }
            if (isOutside(number, least, most)) {
                refuse(at);
                return least;
            }
            moveTo(at + run);
            return number;
        }

        boolean isAtNumber() {
            return runOf('0', '9') > 0;
        }

        private int runOf(char first, char last) {
            int end = at;
            while (end < length && bytes[end] >= first && bytes[end] <= last) {
                end++;
            }
            return end - at;
        }

        private void moveTo(int place) {
            at = place;
            while (at < length && bytes[at] == ' ') {
                at++;
            }
        }
    }

    /** What both kinds of texts have in common: lines with ; between. */
    private abstract static class Reader {
        final Tape text;
        private final int mostLines;

        Reader(Tape text, int mostLines) {
            this.text = text;
            this.mostLines = mostLines;
        }

        abstract void readLine();

        void readAll() {
            text.openText();
            boolean more = !text.isOver();
            for (int line = 0; line <= mostLines && more; line++) {
                if (line < mostLines) {
                    readLine();
                } else {
                    text.refuse(text.at);
                }
                more = text.takesSign(';');
            }
            if (!text.isOver()) {
                text.refuse(text.at);
            }
        }
    }

    /** Reads a text of THE LAND into a land that is thrown away if the text is wrong. */
    private static final class LandReader extends Reader {
        private final Land land;

        LandReader(Tape text, Land land) {
            super(text, LAND_LINES);
            this.land = land;
        }

        void readLine() {
            int begin = text.at;
            if (text.takesWord("person")) {
                readPerson(begin);
            } else if (text.takesWord("pledge")) {
                readPledge();
            } else if (text.takesWord("mud")) {
                readMud();
            } else if (text.takesWord("goal")) {
                readGoal();
            } else if (text.takesWord("fine")) {
                land.fine = text.takeNumber(0, 99);
            } else if (text.takesWord("day")) {
                land.day = text.takeNumber(0, 999);
            } else {
                text.refuse(begin);
            }
        }

        private void readPerson(int begin) {
            if (land.people >= MOST_PEOPLE) {
                text.refuse(begin);
            }
            int purse = text.takeNumber(0, MOST_MONEY);
            text.needWord("pace");
            int pace = text.takeNumber(1, 9);
            text.needWord("at");
            int place = text.takeNumber(0, PLACES - 1);
            if (text.isRight()) {
                land.addPerson(purse, pace, place);
            }
        }

        private void readPledge() {
            int lace = takeLaceInShoe();
            int owner = ownerOf(lace);
            text.needWord("to");
            int holder = takeOther(owner, owner);
            text.needWord("for");
            int amount = text.takeNumber(1, MOST_MONEY);
            text.needWord("knot");
            int knot = text.takeNumber(0, MOST_KNOT);
            text.needWord("till");
            int term = text.takeNumber(1, 999);
            int surety = text.takesWord("by") ? takeOther(owner, holder) : NONE;
            if (text.isRight()) {
                land.pledge(lace, holder, amount, knot, term, surety);
            }
        }

        private void readMud() {
            int place = text.takeNumber(0, PLACES - 1);
            int much = text.takeNumber(0, 9);
            if (text.isRight()) {
                land.mud[place] = much;
            }
        }

        private void readGoal() {
            int person = text.takeNumber(0, land.people - 1);
            int place = text.takeNumber(0, PLACES - 1);
            if (text.isRight()) {
                land.goal[person] = place;
            }
        }

        private int takeLaceInShoe() {
            int begin = text.at;
            int lace = text.takeNumber(0, 2 * land.people - 1);
            if (text.isRight() && land.how[lace] != IN_SHOE) {
                text.refuse(begin);
            }
            return lace;
        }

        private int takeOther(int one, int another) {
            int begin = text.at;
            int person = text.takeNumber(0, land.people - 1);
            if (person == one || person == another) {
                text.refuse(begin);
            }
            return person;
        }
    }

    /** Reads THE LAW; each condition becomes steps that are done one behind another. */
    private static final class LawReader extends Reader {
        private static final int DEEPEST = 6;
        private final Law law;

        LawReader(Tape text, Law law) {
            super(text, LAW_LINES);
            this.law = law;
        }

        void readLine() {
            int kind = takeKind();
            int much = text.takeNumber(0, 99);
            law.openLine(kind, much);
            if (text.takesWord("if")) {
                readAny(0);
            }
            law.closeLine();
        }

        private int takeKind() {
            if (text.takesWord("slow")) {
                return Law.SLOW;
            }
            if (text.takesWord("grow")) {
                return Law.GROW;
            }
            text.needWord("fall");
            return Law.FALL;
        }

        private void readAny(int depth) {
            readEach(depth);
            for (int i = 0; i < MOST_TAPE && text.takesWord("or"); i++) {
                readEach(depth);
                law.addStep(Law.OR);
            }
        }

        private void readEach(int depth) {
            readAtom(depth);
            for (int i = 0; i < MOST_TAPE && text.takesWord("and"); i++) {
                readAtom(depth);
                law.addStep(Law.AND);
            }
        }

        private void readAtom(int depth) {
            int begin = text.at;
            if (text.takesWord("not")) {
                if (depth >= DEEPEST) {
                    text.refuse(begin);
                    return;
                }
                readAtom(depth + 1);
                law.addStep(Law.NOT);
            } else if (text.takesSign('(')) {
                if (depth >= DEEPEST) {
                    text.refuse(begin);
                    return;
                }
                readAny(depth + 1);
                text.needSign(')');
            } else if (text.takesWord("even")) {
                law.addStep(Law.EVEN);
            } else if (text.takesWord("there")) {
                law.addStep(Law.THERE);
            } else {
                readComparison();
            }
        }

        private void readComparison() {
            readSum();
            if (text.takesSign('<')) {
                readSum();
                law.addStep(Law.LESS);
            } else {
                text.needSign('>');
                readSum();
                law.addStep(Law.MORE);
            }
        }

        private void readSum() {
            readPart();
            for (int i = 0; i < MOST_TAPE && text.takesSign('+'); i++) {
                readPart();
                law.addStep(Law.PLUS);
            }
        }

        private void readPart() {
            if (text.isAtNumber()) {
                law.addStep(text.takeNumber(0, 999));
            } else if (text.takesWord("who")) {
                law.addStep(Law.WHO);
            } else if (text.takesWord("slack")) {
                law.addStep(Law.SLACK);
            } else if (text.takesWord("held")) {
                law.addStep(Law.HELD);
            } else if (text.takesWord("place")) {
                law.addStep(Law.PLACE);
            } else if (text.takesWord("mud")) {
                law.addStep(Law.MUD);
            } else if (text.takesWord("tired")) {
                law.addStep(Law.TIRED);
            } else if (text.takesWord("day")) {
                law.addStep(Law.DAY);
            } else {
                text.refuse(text.at);
            }
        }
    }

    /** THE LAW. A step below FACTS is a number, one from FACTS on a fact of who is asked, the others join. */
    private static final class Law {
        static final int SLOW = 0;
        static final int GROW = 1;
        static final int FALL = 2;

        static final int FACTS = 1000;
        static final int WHO = 1000;
        static final int SLACK = 1001;
        static final int HELD = 1002;
        static final int PLACE = 1003;
        static final int MUD = 1004;
        static final int TIRED = 1005;
        static final int DAY = 1006;
        static final int EVEN = 1007;
        static final int THERE = 1008;
        static final int JOINS = 1009;
        static final int NOT = 1009;
        static final int PLUS = 1010;
        static final int LESS = 1011;
        static final int MORE = 1012;
        static final int AND = 1013;
        static final int OR = 1014;

        boolean told = false;
        int lines = 0;
        private int size = 0;
        private final int[] kinds = new int[LAW_LINES];
        private final int[] numbers = new int[LAW_LINES];
        private final int[] begins = new int[LAW_LINES];
        private final int[] ends = new int[LAW_LINES];
        private final int[] steps = new int[MOST_TAPE];
        private final int[] facts = new int[JOINS - FACTS];
        /** Seven depths with an or and an and open in each, and three numbers, are 17 at most. */
        private final int[] stack = new int[24];

        void clear() {
            told = false;
            lines = 0;
            size = 0;
        }

        void copyFrom(Law other) {
            told = other.told;
            lines = other.lines;
            size = other.size;
            System.arraycopy(other.kinds, 0, kinds, 0, LAW_LINES);
            System.arraycopy(other.numbers, 0, numbers, 0, LAW_LINES);
            System.arraycopy(other.begins, 0, begins, 0, LAW_LINES);
            System.arraycopy(other.ends, 0, ends, 0, LAW_LINES);
            System.arraycopy(other.steps, 0, steps, 0, MOST_TAPE);
        }

        void openLine(int kind, int number) {
            if (lines < LAW_LINES) {
                kinds[lines] = kind;
                numbers[lines] = number;
                begins[lines] = size;
            }
        }

        void addStep(int step) {
            if (size < MOST_TAPE) {
                steps[size] = step;
                size++;
            }
        }

        void closeLine() {
            if (lines < LAW_LINES) {
                ends[lines] = size;
                lines++;
            }
        }

        int sumOf(int kind, Land land, int person) {
            int sum = 0;
            boolean asked = false;
            for (int line = 0; line < lines; line++) {
                if (kinds[line] == kind) {
                    if (!asked) {
                        ask(land, person);
                        asked = true;
                    }
                    if (holds(line)) {
                        sum += numbers[line];
                    }
                }
            }
            return sum;
        }

        private void ask(Land land, int person) {
            int slack = Integer.bitCount(land.gaitOf(person));
            facts[WHO - FACTS] = person;
            facts[SLACK - FACTS] = slack;
            facts[HELD - FACTS] = Integer.bitCount(land.heldBy(person));
            facts[PLACE - FACTS] = land.place[person];
            facts[MUD - FACTS] = land.mud[land.place[person]];
            facts[TIRED - FACTS] = land.tired[person];
            facts[DAY - FACTS] = land.day;
            facts[EVEN - FACTS] = slack != 1 ? 1 : 0;
            facts[THERE - FACTS] = land.place[person] == land.goal[person] ? 1 : 0;
        }

        private boolean holds(int line) {
            int top = 0;
            for (int i = begins[line]; i < ends[line]; i++) {
                int step = steps[i];
                if (step < JOINS) {
                    if (top < stack.length) {
                        stack[top] = step < FACTS ? step : facts[step - FACTS];
                        top++;
                    }
                } else if (step == NOT) {
                    if (top > 0) {
                        stack[top - 1] = 1 - stack[top - 1];
                    }
                } else if (top > 1) {
                    top--;
                    stack[top - 1] = joined(step, stack[top - 1], stack[top]);
                }
            }
            return top == 0 || stack[0] != 0;
        }

        private static int joined(int step, int left, int right) {
            switch (step) {
                case PLUS: return left + right;
                case LESS: return left < right ? 1 : 0;
                case MORE: return left > right ? 1 : 0;
                case AND: return left & right;
                default: return left | right;
            }
        }
    }

    /** THE LOG. A row is one number, so that a remembered land stays small. */
    private static final class Book {
        private final int[] rows = new int[LOG_ROWS];
        private int next = 0;
        int size = 0;

        void copyFrom(Book other) {
            next = other.next;
            size = other.size;
            System.arraycopy(other.rows, 0, rows, 0, LOG_ROWS);
        }

        void add(int day, int lace, int what, int amount) {
            rows[next] = day << 16 | lace << 12 | what << 10 | amount;
            next = (next + 1) % LOG_ROWS;
            size = Math.min(size + 1, LOG_ROWS);
        }

        int dayAt(int ago) {
            return rowAt(ago) >> 16;
        }

        int laceAt(int ago) {
            return rowAt(ago) >> 12 & 15;
        }

        int whatAt(int ago) {
            return rowAt(ago) >> 10 & 3;
        }

        int amountAt(int ago) {
            return rowAt(ago) & 1023;
        }

        int rowsOf(int lace) {
            int count = 0;
            for (int ago = 0; ago < size; ago++) {
                if (laceAt(ago) == lace) {
                    count++;
                }
            }
            return count;
        }

        int latestDayOf(int lace) {
            for (int ago = 0; ago < size; ago++) {
                if (laceAt(ago) == lace) {
                    return dayAt(ago);
                }
            }
            return NONE;
        }

        private int rowAt(int ago) {
            return rows[Math.floorMod(next - 1 - ago, LOG_ROWS)];
        }
    }

    /** All that an act can change, with what can be asked of it. */
    private static final class Land {
        int people = 0;
        int texts = 0;
        int day = 0;
        int fine = 5;
        int seed = 1;
        int falls = 0;
        final int[] purse = new int[MOST_PEOPLE];
        final int[] pace = new int[MOST_PEOPLE];
        final int[] place = new int[MOST_PEOPLE];
        final int[] goal = new int[MOST_PEOPLE];
        final int[] tired = new int[MOST_PEOPLE];
        final int[] how = new int[MOST_LACES];
        final int[] holder = new int[MOST_LACES];
        final int[] amount = new int[MOST_LACES];
        final int[] knot = new int[MOST_LACES];
        final int[] term = new int[MOST_LACES];
        final int[] surety = new int[MOST_LACES];
        final int[] mud = new int[PLACES];
        final Book book = new Book();

        void copyFrom(Land other) {
            people = other.people;
            texts = other.texts;
            day = other.day;
            fine = other.fine;
            seed = other.seed;
            falls = other.falls;
            System.arraycopy(other.purse, 0, purse, 0, MOST_PEOPLE);
            System.arraycopy(other.pace, 0, pace, 0, MOST_PEOPLE);
            System.arraycopy(other.place, 0, place, 0, MOST_PEOPLE);
            System.arraycopy(other.goal, 0, goal, 0, MOST_PEOPLE);
            System.arraycopy(other.tired, 0, tired, 0, MOST_PEOPLE);
            System.arraycopy(other.how, 0, how, 0, MOST_LACES);
            System.arraycopy(other.holder, 0, holder, 0, MOST_LACES);
            System.arraycopy(other.amount, 0, amount, 0, MOST_LACES);
            System.arraycopy(other.knot, 0, knot, 0, MOST_LACES);
            System.arraycopy(other.term, 0, term, 0, MOST_LACES);
            System.arraycopy(other.surety, 0, surety, 0, MOST_LACES);
            System.arraycopy(other.mud, 0, mud, 0, PLACES);
            book.copyFrom(other.book);
        }

        void addPerson(int money, int speed, int where) {
            purse[people] = money;
            pace[people] = speed;
            place[people] = where;
            goal[people] = where;
            tired[people] = 0;
            letGo(2 * people, IN_SHOE, NONE);
            letGo(2 * people + 1, IN_SHOE, NONE);
            people++;
        }

        void pledge(int lace, int to, int much, int tied, int till, int by) {
            how[lace] = PLEDGED;
            holder[lace] = to;
            amount[lace] = much;
            knot[lace] = tied;
            term[lace] = till;
            surety[lace] = by;
        }

        void payOff(int lace, int payer) {
            purse[payer] -= amount[lace];
            earn(holder[lace], amount[lace]);
            book.add(day, lace, WENT_BACK, amount[lace]);
            letGo(lace, IN_SHOE, NONE);
        }

        void earn(int person, int much) {
            purse[person] = Math.min(MOST_MONEY, purse[person] + much);
        }

        /** That many DAYS more; how often somebody fell. */
        int liveOn(int n, Law law, boolean draws) {
            int fell = 0;
            for (int i = 0; i < n; i++) {
                fell += walkAll(law, draws);
                for (int lace = 0; lace < 2 * people; lace++) {
                    if (isPledged(lace)) {
                        amount[lace] = Math.min(MOST_MONEY, amount[lace] + growthOf(lace, law));
                    }
                }
                for (int lace = 0; lace < 2 * people; lace++) {
                    if (isPledged(lace) && term[lace] <= day) {
                        settle(lace);
                    }
                }
                day = Math.min(LAST_DAY, day + 1);
            }
            falls += fell;
            return fell;
        }

        int walkOf(int person, Law law) {
            int slower = law.told ? law.sumOf(Law.SLOW, this, person) : 2 * slackOf(person);
            return Math.max(0, pace[person] - slower);
        }

        int fallOf(int person, Law law) {
            return law.told ? Math.min(100, law.sumOf(Law.FALL, this, person)) : 10 * slackOf(person);
        }

        int growthOf(int lace, Law law) {
            return knot[lace] + law.sumOf(Law.GROW, this, ownerOf(lace));
        }

        boolean isPledged(int lace) {
            return how[lace] == PLEDGED;
        }

        int lacesThatAre(int state) {
            int set = 0;
            for (int lace = 0; lace < 2 * people; lace++) {
                if (how[lace] == state) {
                    set |= 1 << lace;
                }
            }
            return set;
        }

        int gaitOf(int person) {
            int left = how[2 * person] != IN_SHOE ? 1 : 0;
            int right = how[2 * person + 1] != IN_SHOE ? 2 : 0;
            return left + right;
        }

        int slackOf(int person) {
            return Integer.bitCount(gaitOf(person));
        }

        int heldBy(int person) {
            int set = 0;
            for (int lace = 0; lace < 2 * people; lace++) {
                if (holder[lace] == person) {
                    set |= 1 << lace;
                }
            }
            return set;
        }

        int owedBy(int person) {
            return amountOf(lacesOf(person));
        }

        int dueTo(int person) {
            return amountOf(heldBy(person));
        }

        /** What is not PLEDGED has no amount, so it adds nothing. */
        int amountOf(int set) {
            int sum = 0;
            for (int lace = 0; lace < 2 * people; lace++) {
                if (hasBit(set, lace)) {
                    sum += amount[lace];
                }
            }
            return sum;
        }

        int allPurses() {
            int sum = 0;
            for (int person = 0; person < people; person++) {
                sum += purse[person];
            }
            return sum;
        }

        int shareOf(int person) {
            int lost = lacesThatAre(LOST);
            int all = Integer.bitCount(lost);
            return all == 0 ? 0 : 100 * Integer.bitCount(lost & heldBy(person)) / all;
        }

        int hangingOn(int person) {
            int set = 0;
            for (int lace = 0; lace < 2 * people; lace++) {
                if (surety[lace] == person) {
                    set |= 1 << lace;
                }
            }
            return set;
        }

        /** LEADS: as many rounds as there are people reach the end of every row. */
        int creditorsOf(int person) {
            int set = directCreditorsOf(person);
            for (int round = 0; round < people; round++) {
                for (int one = 0; one < people; one++) {
                    if (hasBit(set, one)) {
                        set |= directCreditorsOf(one);
                    }
                }
            }
            return set;
        }

        /** Each owner pays of its own purse, so the best set for a holder is the best of each owner together. */
        int callable(int person, int owner) {
            int left = laceFor(2 * owner, person);
            int right = laceFor(2 * owner + 1, person);
            int best = 0;
            best = betterCall(best, left, purse[owner]);
            best = betterCall(best, right, purse[owner]);
            return betterCall(best, left | right, purse[owner]);
        }

        boolean isInEachPledge(int set) {
            for (int lace = 0; lace < 2 * people; lace++) {
                if (isPledged(lace) && (set & partiesOf(lace)) == 0) {
                    return false;
                }
            }
            return true;
        }

        private int walkAll(Law law, boolean draws) {
            int fell = 0;
            for (int person = 0; person < people; person++) {
                if (place[person] != goal[person]) {
                    if (draws && draw() % 100 < fallOf(person, law)) {
                        fall(person);
                        fell++;
                    } else {
                        walk(person, walkOf(person, law));
                    }
                }
            }
            return fell;
        }

        private int draw() {
            seed = 1103515245 * seed + 12345;
            return seed >>> 16 & 32767;
        }

        private void fall(int person) {
            purse[person] = Math.max(0, purse[person] - fine);
            tired[person] = Math.min(MOST_TIRED, tired[person] + 1);
        }

        private void walk(int person, int far) {
            if (place[person] < goal[person]) {
                place[person] = Math.min(goal[person], place[person] + far);
            } else {
                place[person] = Math.max(goal[person], place[person] - far);
            }
        }

        private void settle(int lace) {
            int owner = ownerOf(lace);
            int by = surety[lace];
            if (purse[owner] >= amount[lace]) {
                payOff(lace, owner);
            } else if (by != NONE && purse[by] >= amount[lace]) {
                payOff(lace, by);
            } else {
                book.add(day, lace, WENT_FOR_GOOD, amount[lace]);
                letGo(lace, LOST, holder[lace]);
            }
        }

        /** Nothing is owed for the lace any more. */
        private void letGo(int lace, int state, int keeper) {
            how[lace] = state;
            holder[lace] = keeper;
            amount[lace] = 0;
            knot[lace] = 0;
            term[lace] = 0;
            surety[lace] = NONE;
        }

        private int directCreditorsOf(int person) {
            return creditorOf(2 * person) | creditorOf(2 * person + 1);
        }

        private int creditorOf(int lace) {
            return isPledged(lace) ? 1 << holder[lace] : 0;
        }

        private int laceFor(int lace, int person) {
            return isPledged(lace) && holder[lace] == person ? 1 << lace : 0;
        }

        private int betterCall(int best, int other, int money) {
            int much = amountOf(other);
            return much <= money && much > amountOf(best) ? other : best;
        }

        private int partiesOf(int lace) {
            int set = 1 << ownerOf(lace) | 1 << holder[lace];
            return surety[lace] == NONE ? set : set | 1 << surety[lace];
        }
    }

    /** The lands ahead of the latest acts. */
    private static final class Acts {
        private final Land[] before = new Land[MOST_ACTS];
        private int next = 0;
        int count = 0;

        Acts() {
            for (int i = 0; i < MOST_ACTS; i++) {
                before[i] = new Land();
            }
        }

        void remember(Land land) {
            before[next].copyFrom(land);
            next = (next + 1) % MOST_ACTS;
            count = Math.min(count + 1, MOST_ACTS);
        }

        boolean takeBack(Land land) {
            if (count == 0) {
                return false;
            }
            count--;
            next = (next + MOST_ACTS - 1) % MOST_ACTS;
            land.copyFrom(before[next]);
            return true;
        }

        void forget() {
            count = 0;
        }
    }

    /** Sets of PLEDGED laces that can be untied at once. */
    private static final class Rings {
        private final int[] laces = new int[MOST_LACES];
        private final int[] balance = new int[MOST_PEOPLE];
        int found = 0;
        int best = 0;

        void seek(Land land) {
            int count = gather(land);
            found = 0;
            best = 0;
            int set = 0;
            // From one set to the next a single lace is put in or out, so the balances need no new sum.
            for (int step = 1; step < 1 << count; step++) {
                int lace = laces[Integer.numberOfTrailingZeros(step)];
                set ^= 1 << lace;
                int more = hasBit(set, lace) ? land.amount[lace] : -land.amount[lace];
                balance[ownerOf(lace)] += more;
                balance[land.holder[lace]] -= more;
                if (isBalanced()) {
                    take(set);
                }
            }
        }

        private int gather(Land land) {
            for (int person = 0; person < MOST_PEOPLE; person++) {
                balance[person] = 0;
            }
            int count = 0;
            for (int lace = 0; lace < 2 * land.people; lace++) {
                if (land.isPledged(lace)) {
                    laces[count] = lace;
                    count++;
                }
            }
            return count;
        }

        private boolean isBalanced() {
            for (int person = 0; person < MOST_PEOPLE; person++) {
                if (balance[person] != 0) {
                    return false;
                }
            }
            return true;
        }

        private void take(int set) {
            found++;
            int more = Integer.bitCount(set) - Integer.bitCount(best);
            if (more > 0 || more == 0 && set < best) {
                best = set;
            }
        }
    }

    /** CARRY: by which ways people go to told places, each to another one. */
    private static final class Ways {
        /** More than all people need together. */
        private static final int NEVER = 1000000;
        private final int[] needs = new int[MOST_PEOPLE * MOST_PEOPLE];
        /** The least that those need who come behind as many people as the set has places. */
        private final int[] least = new int[1 << MOST_PEOPLE];
        private int people = 0;

        void tell(int person, int at, int days) {
            needs[person * MOST_PEOPLE + at] = days == NONE ? NEVER : days;
        }

        void weigh(int many) {
            people = many;
            int all = (1 << people) - 1;
            least[all] = 0;
            for (int taken = all - 1; taken >= 0; taken--) {
                least[taken] = NEVER;
                for (int at = 0; at < people; at++) {
                    if (!hasBit(taken, at)) {
                        least[taken] = Math.min(least[taken], with(taken, at));
                    }
                }
            }
        }

        int leastOfAll() {
            return least[0] >= NEVER ? NONE : least[0];
        }

        int partOf(int person) {
            if (least[0] >= NEVER) {
                return NONE;
            }
            int taken = 0;
            int part = NONE;
            for (int one = 0; one <= person; one++) {
                part = firstBest(taken);
                taken |= 1 << part;
            }
            return part;
        }

        private int firstBest(int taken) {
            for (int at = 0; at < people; at++) {
                if (!hasBit(taken, at) && with(taken, at) == least[taken]) {
                    return at;
                }
            }
            return 0;
        }

        private int with(int taken, int at) {
            int person = Integer.bitCount(taken);
            return needs[person * MOST_PEOPLE + at] + least[taken | 1 << at];
        }
    }

    /** WEAR and LOOK: sets of people who could have lost a lace. */
    private static final class Wearers {
        private static final int MOST_BYTES = 36;
        private final Tape tape;
        /** Of how many sets that fit each person is. */
        private final int[] setsWith = new int[MOST_PEOPLE];
        private int people = 0;
        int count = 0;
        int inAll = 0;

        Wearers(Tape tape) {
            this.tape = tape;
        }

        boolean areTold(int size, int many) {
            if (size > MOST_BYTES || size % 3 != 0) {
                return false;
            }
            for (int row = 0; row < size; row += 3) {
                if (tape.bytes[row] > tape.bytes[row + 1] || tape.bytes[row + 1] >= many) {
                    return false;
                }
            }
            return true;
        }

        void seek(int size, int many) {
            people = many;
            count = 0;
            inAll = 0;
            for (int person = 0; person < people; person++) {
                setsWith[person] = 0;
            }
            for (int set = 0; set < 1 << people; set++) {
                if (fits(set, size)) {
                    take(set);
                }
            }
        }

        int parting() {
            int best = NONE;
            int least = count;
            for (int person = 0; person < people && count > 1; person++) {
                int greater = Math.max(setsWith[person], count - setsWith[person]);
                if (greater < least) {
                    least = greater;
                    best = person;
                }
            }
            return best;
        }

        private boolean fits(int set, int size) {
            for (int row = 0; row < size; row += 3) {
                int many = tape.bytes[row + 1] - tape.bytes[row] + 1;
                int among = set >> tape.bytes[row] & (1 << many) - 1;
                if (Integer.bitCount(among) != tape.bytes[row + 2]) {
                    return false;
                }
            }
            return true;
        }

        private void take(int set) {
            inAll = count == 0 ? set : inAll & set;
            count++;
            for (int person = 0; person < people; person++) {
                if (hasBit(set, person)) {
                    setsWith[person]++;
                }
            }
        }
    }
}
