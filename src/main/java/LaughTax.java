/** A duchy in which whoever laughs pays; the document's promises 1 to 50 say what each call answers. */
public final class LaughTax {
    private static final int BEYOND = -1000001;
    private static final int FULL = -1000002;
    private static final int KIND = -1000003;
    private static final int NONE = -1000004;
    private static final int STATE = -1000005;
    private static final int MISSING = -1000006;
    private static final int SIZE = -1000007;
    private static final int FINDINGS = 7;
    /** In place of a finding where there is none. */
    private static final int FINE = 0;

    private static final int PEOPLE = 8;
    private static final int JOKES = 8;
    private static final int KINDS = 7;
    private static final int LAST_SEAT = 15;
    private static final int ALL_TOPICS = 63;
    private static final int MOST_FUN = 9;
    private static final int MOST_MOOD = 9;
    private static final int MOST_PURSE = 9999;
    private static final int MOST_RATE = 20;
    private static final int MOST_REACH = 15;
    private static final int MOST_TREASURY = 999999;
    private static final int MOST_TOLD = 99999;
    private static final int LONGEST_EVENING = 60;
    private static final int MOST_TIMES = 20;
    private static final int MOST_ODDS = 14;
    private static final int SPOTS = 10;
    private static final int SHEETS = 4;
    private static final int SHEET_LENGTH = 40;
    private static final int TAPE_LENGTH = 120;
    private static final int ANY = -1;

    private final Room live;
    /** For all that would be: a copy of the live one is played on here, so that nothing changes. */
    private final Room trial;
    private final Room kept;
    private boolean keeps;
    private final Telling telling;
    private final Tape tape;
    private final Sheet[] sheets;
    private final int[] findings;

    public LaughTax() {
        live = new Room();
        trial = new Room();
        kept = new Room();
        keeps = false;
        telling = new Telling();
        tape = new Tape();
        sheets = new Sheet[SHEETS];
        for (int s = 0; s < SHEETS; s++) {
            sheets[s] = new Sheet();
        }
        findings = new int[FINDINGS];
    }

    // ---- people, jokes

    public int person(int kind, int seat) {
        if (!isKind(kind) || !isSeat(seat)) {
            return found(BEYOND);
        }
        if (live.people >= PEOPLE) {
            return found(FULL);
        }
        return live.addPerson(kind, seat);
    }

    public int of(int person, int what) {
        if (!hasPerson(person)) {
            return found(BEYOND);
        }
        switch (what) {
            case 0: return live.kind[person];
            case 1: return live.seat[person];
            case 2: return live.taste[person];
            case 3: return live.mood[person];
            case 4: return live.purse[person];
            case 5: return Kinds.bound(live.kind[person], live.purse[person]);
            case 6: return Kinds.number(live.kind[person], live.mood[person]);
            case 7: return Integer.bitCount(live.near[person]);
            default: return found(BEYOND);
        }
    }

    public int change(int person, int what, int v) {
        if (!hasPerson(person) || !canBecome(what, v)) {
            return found(BEYOND);
        }
        switch (what) {
            case 0: return replace(live.kind, person, v);
            case 1: return moveTo(person, v);
            case 2: return replace(live.taste, person, v);
            case 3: return replace(live.mood, person, v);
            default: return replace(live.purse, person, v);
        }
    }

    public int joke(int topics, int fun) {
        if (!isTopics(topics) || !isFun(fun)) {
            return found(BEYOND);
        }
        if (live.jokes >= JOKES) {
            return found(FULL);
        }
        return live.addJoke(topics, fun);
    }

    public int jokeOf(int joke, int what) {
        if (!hasJoke(joke) || !within(what, 0, 1)) {
            return found(BEYOND);
        }
        return what == 0 ? live.topics[joke] : live.fun[joke];
    }

    public int law(int what, int v) {
        int most = what == 0 ? MOST_RATE : MOST_REACH;
        if (!within(what, 0, 1) || !within(v, 0, most)) {
            return found(BEYOND);
        }
        int before = what == 0 ? live.rate : live.reach;
        if (what == 0) {
            live.rate = v;
        } else {
            live.setReach(v);
        }
        return before;
    }

    public int strength(int joke, int person, int what) {
        if (!hasJoke(joke) || !hasPerson(person)) {
            return found(BEYOND);
        }
        int strength = live.strengthFor(person, live.topics[joke], live.fun[joke]);
        switch (what) {
            case 0: return strength;
            case 1: return Kinds.seconds(live.kind[person], strength);
            case 2: return live.dueFrom(person, strength);
            default: return found(BEYOND);
        }
    }

    // ---- jokes told

    public int tell(int joke) {
        if (!hasJoke(joke)) {
            return found(BEYOND);
        }
        if (live.told + 1 > MOST_TOLD) {
            return found(STATE);
        }
        return telling.perform(live, joke);
    }

    public int evening(int joke, int n) {
        if (!hasJoke(joke) || !within(n, 1, LONGEST_EVENING)) {
            return found(BEYOND);
        }
        if (live.told + n > MOST_TOLD) {
            return found(STATE);
        }
        return telling.performOften(live, joke, n);
    }

    public int now(int what) {
        switch (what) {
            case 0: return live.told;
            case 1: return live.treasury;
            case 2: return live.together(live.purse);
            case 3: return live.together(live.mood);
            case 4: return live.rate;
            case 5: return live.reach;
            default: return found(BEYOND);
        }
    }

    public int relief(int n) {
        if (!within(n, 0, MOST_PURSE)) {
            return found(BEYOND);
        }
        if (live.people == 0) {
            return found(NONE);
        }
        int units = Math.min(n, live.treasury);
        for (int came = 0; came < units; came++) {
            int poorest = live.poorest();
            if (live.purse[poorest] >= MOST_PURSE) {
                return came;
            }
            live.purse[poorest]++;
            live.treasury--;
        }
        return units;
    }

    // ---- what would be (nothing changes)

    public int laugh(int joke, int what) {
        if (!hasJoke(joke) || !within(what, 0, 1)) {
            return found(BEYOND);
        }
        if (what == 0) {
            return telling.startersOf(live, live.topics[joke], live.fun[joke]);
        }
        return telling.laughersOf(live, joke);
    }

    public int rounds(int joke) {
        if (!hasJoke(joke)) {
            return found(BEYOND);
        }
        telling.laughersOf(live, joke);
        return telling.lastRound;
    }

    public int raised(int joke) {
        if (!hasJoke(joke)) {
            return found(BEYOND);
        }
        trial.takeOver(live);
        telling.perform(trial, joke);
        return trial.together(telling.paid);
    }

    public int ahead(int joke, int n) {
        if (!hasJoke(joke) || !within(n, 0, LONGEST_EVENING)) {
            return found(BEYOND);
        }
        trial.takeOver(live);
        return telling.performOften(trial, joke, n);
    }

    public int stale(int joke) {
        if (!hasJoke(joke)) {
            return found(BEYOND);
        }
        trial.takeOver(live);
        for (int times = 0; times <= LONGEST_EVENING; times++) {
            if (telling.perform(trial, joke) == 0) {
                return times;
            }
        }
        return found(NONE);
    }

    public int broke(int joke, int person) {
        if (!hasJoke(joke) || !hasPerson(person)) {
            return found(BEYOND);
        }
        trial.takeOver(live);
        for (int times = 0; times <= LONGEST_EVENING; times++) {
            if (trial.purse[person] == 0) {
                return times;
            }
            telling.perform(trial, joke);
        }
        return found(NONE);
    }

    // ---- catching

    public int caught(int people) {
        if (!within(people, 0, live.everybody())) {
            return found(BEYOND);
        }
        return telling.spread(live, people, live.everybody());
    }

    public int starter() {
        if (live.people == 0) {
            return found(NONE);
        }
        int best = 0;
        int most = 0;
        for (int p = 0; p < live.people; p++) {
            int laughing = Integer.bitCount(telling.spread(live, 1 << p, live.everybody()));
            if (laughing > most) {
                most = laughing;
                best = p;
            }
        }
        return best;
    }

    public int fewest() {
        int all = live.everybody();
        int least = all;
        for (int set = 0; set <= all; set++) {
            if (isSmaller(set, least) && telling.spread(live, set, all) == all) {
                least = set;
            }
        }
        return least;
    }

    public int away(int joke, int k) {
        if (!hasJoke(joke) || !within(k, 0, PEOPLE)) {
            return found(BEYOND);
        }
        int starters = telling.startersOf(live, live.topics[joke], live.fun[joke]);
        int all = live.everybody();
        int least = all;
        for (int gone = 0; gone <= all; gone++) {
            if (isSmaller(gone, least)
                    && Integer.bitCount(telling.spread(live, starters & ~gone, all & ~gone)) <= k) {
                least = gone;
            }
        }
        return least;
    }

    public int seatFor(int person, int joke) {
        if (!hasPerson(person) || !hasJoke(joke)) {
            return found(BEYOND);
        }
        trial.takeOver(live);
        int best = 0;
        int fewestYet = PEOPLE + 1;
        for (int seat = 0; seat <= LAST_SEAT; seat++) {
            trial.setSeat(person, seat);
            int laughing = Integer.bitCount(telling.laughersOf(trial, joke));
            if (laughing < fewestYet) {
                fewestYet = laughing;
                best = seat;
            }
        }
        return best;
    }

    public int kindFor(int person, int joke) {
        if (!hasPerson(person) || !hasJoke(joke)) {
            return found(BEYOND);
        }
        trial.takeOver(live);
        int best = 0;
        int mostYet = -1;
        for (int kind = 0; kind < KINDS; kind++) {
            trial.kind[person] = kind;
            int laughing = Integer.bitCount(telling.laughersOf(trial, joke));
            if (laughing > mostYet) {
                mostYet = laughing;
                best = kind;
            }
        }
        return best;
    }

    public int reachFor(int joke) {
        if (!hasJoke(joke)) {
            return found(BEYOND);
        }
        trial.takeOver(live);
        for (int reach = 0; reach <= MOST_REACH; reach++) {
            trial.setReach(reach);
            if (telling.laughersOf(trial, joke) == trial.everybody()) {
                return reach;
            }
        }
        return found(NONE);
    }

    // ---- laws

    public int rateFor(int joke, int n) {
        if (!hasJoke(joke) || !within(n, 1, MOST_TIMES)) {
            return found(BEYOND);
        }
        int best = 0;
        int mostYet = -1;
        for (int rate = 0; rate <= MOST_RATE; rate++) {
            trial.takeOver(live);
            trial.rate = rate;
            int treasury = telling.performOften(trial, joke, n);
            if (treasury > mostYet) {
                mostYet = treasury;
                best = rate;
            }
        }
        return best;
    }

    public int best(int fun) {
        if (!isFun(fun)) {
            return found(BEYOND);
        }
        int bestYet = 1;
        int mostYet = -1;
        for (int topics = 1; topics <= ALL_TOPICS; topics++) {
            int laughing = laughingAt(topics, fun);
            if (laughing > mostYet) {
                mostYet = laughing;
                bestYet = topics;
            }
        }
        return bestYet;
    }

    public int quiet(int fun) {
        if (!isFun(fun)) {
            return found(BEYOND);
        }
        int bestYet = 0;
        int fewestYet = PEOPLE + 1;
        for (int topics = 1; topics <= ALL_TOPICS; topics++) {
            int laughing = laughingAt(topics, fun);
            if (laughing > 0 && laughing < fewestYet) {
                fewestYet = laughing;
                bestYet = topics;
            }
        }
        return bestYet == 0 ? found(NONE) : bestYet;
    }

    public int safe(int topics) {
        if (!isTopics(topics)) {
            return found(BEYOND);
        }
        for (int fun = MOST_FUN; fun >= 0; fun--) {
            if (laughingAt(topics, fun) == 0) {
                return fun;
            }
        }
        return found(NONE);
    }

    // ---- what was paid

    public int tastes(int s, int person, int joke) {
        int finding = paymentsFinding(s, person, joke);
        if (finding != FINE) {
            return found(finding);
        }
        int fitting = 0;
        for (int taste = 0; taste <= ALL_TOPICS; taste++) {
            if (fits(sheets[s], person, joke, taste)) {
                fitting++;
            }
        }
        return fitting;
    }

    public int taste(int s, int person, int joke) {
        int finding = paymentsFinding(s, person, joke);
        if (finding != FINE) {
            return found(finding);
        }
        for (int taste = 0; taste <= ALL_TOPICS; taste++) {
            if (fits(sheets[s], person, joke, taste)) {
                return taste;
            }
        }
        return found(NONE);
    }

    public int which(int s) {
        int finding = sheetFinding(s);
        if (finding != FINE) {
            return found(finding);
        }
        int jokes = 0;
        for (int joke = 0; joke < live.jokes; joke++) {
            trial.takeOver(live);
            telling.perform(trial, joke);
            if (sheets[s].tellsFirst(telling.paid, live.people)) {
                jokes |= 1 << joke;
            }
        }
        return jokes;
    }

    // ---- by draws

    public int shows(int n) {
        if (!within(n, 1, MOST_TIMES)) {
            return found(BEYOND);
        }
        if (live.jokes == 0 || live.told + n > MOST_TOLD) {
            return found(STATE);
        }
        for (int i = 0; i < n; i++) {
            telling.perform(live, live.drawBelow(live.jokes));
        }
        return live.treasury;
    }

    public long odds(int n, int what) {
        if (!within(n, 0, MOST_ODDS) || !within(what, 0, 1)) {
            return found(BEYOND);
        }
        if (live.jokes == 0) {
            return found(NONE);
        }
        int funny = 0;
        for (int joke = 0; joke < live.jokes; joke++) {
            if (telling.laughersOf(live, joke) != 0) {
                funny++;
            }
        }
        int part = what == 0 ? inLowestTerms(funny, live.jokes) : inLowestTerms(live.jokes, funny);
        return power(part, n);
    }

    public int seed(int v) {
        int before = live.z;
        live.z = v;
        return before;
    }

    // ---- texts

    public int feed(int bytes, int n) {
        if (!within(n, 1, 4)) {
            return found(BEYOND);
        }
        if (tape.length + n > TAPE_LENGTH) {
            return found(FULL);
        }
        for (int i = n - 1; i >= 0; i--) {
            tape.put((byte) (bytes >>> (8 * i)));
        }
        return tape.length;
    }

    public int wipe() {
        int before = tape.length;
        tape.length = 0;
        return before;
    }

    public int text() {
        trial.takeOver(live);
        int answer = tape.readInto(trial);
        tape.length = 0;
        if (answer >= 0) {
            live.takeOver(trial);
        }
        return answer;
    }

    // ---- spots, sheets

    public int hold(int spot, int person) {
        boolean nothing = person == Room.NOBODY;
        if (!within(spot, 0, SPOTS - 1) || !(nothing || hasPerson(person))) {
            return found(BEYOND);
        }
        live.spots[spot] = person;
        return 1;
    }

    public int as(int spot, int kind) {
        if (!within(spot, 0, SPOTS - 1) || !isKind(kind)) {
            return found(BEYOND);
        }
        int held = live.spots[spot];
        if (!hasPerson(held)) {
            return found(MISSING);
        }
        return Kinds.isA(live.kind[held], kind) ? held : found(KIND);
    }

    public int sheet(int s, int bits, int n) {
        boolean known = bits == 0 || bits == 8 || bits == 16 || bits == 32;
        if (!within(s, 0, SHEETS - 1) || !known) {
            return found(BEYOND);
        }
        if (n < 0) {
            return found(SIZE);
        }
        if (n > SHEET_LENGTH) {
            return found(BEYOND);
        }
        sheets[s].begin(bits, bits == 0 ? 0 : n);
        return sheets[s].length;
    }

    public int write(int s, int i, int v) {
        int finding = sheetFinding(s);
        if (finding != FINE) {
            return found(finding);
        }
        if (!within(i, 0, sheets[s].length - 1)) {
            return found(BEYOND);
        }
        sheets[s].put(i, v);
        return 1;
    }

    public int copy(int s, int from, int t, int to, int n) {
        if (!within(s, 0, SHEETS - 1) || !within(t, 0, SHEETS - 1)) {
            return found(BEYOND);
        }
        Sheet source = sheets[s];
        Sheet target = sheets[t];
        if (source.isMissing() || target.isMissing()) {
            return found(MISSING);
        }
        if (source.bits != target.bits) {
            return found(KIND);
        }
        if (!source.has(from, n) || !target.has(to, n)) {
            return found(BEYOND);
        }
        System.arraycopy(source.numbers, from, target.numbers, to, n);
        return n;
    }

    public int load(int s) {
        int finding = sheetFinding(s);
        if (finding != FINE) {
            return found(finding);
        }
        int numbers = Math.min(sheets[s].length, live.people);
        for (int i = 0; i < numbers; i++) {
            if (!isSeat(sheets[s].numbers[i])) {
                return i;
            }
            live.setSeat(i, sheets[s].numbers[i]);
        }
        return numbers;
    }

    public int judge(int s) {
        int finding = sheetFinding(s);
        if (finding != FINE) {
            return found(finding);
        }
        if (live.jokes == 0) {
            return found(STATE);
        }
        int toCome = telling.laughersOf(live, 0);
        int round = 0;
        for (int i = 0; i < sheets[s].length; i++) {
            int one = sheets[s].numbers[i];
            if (!hasPerson(one) || !isIn(toCome, one) || telling.roundOf[one] < round) {
                return 1 + i;
            }
            toCome &= ~(1 << one);
            round = telling.roundOf[one];
        }
        return 0;
    }

    // ---- images

    public int image() {
        kept.takeOver(live);
        keeps = true;
        return 1;
    }

    public int undo() {
        if (!keeps) {
            return found(NONE);
        }
        live.takeOver(kept);
        return live.told;
    }

    public int tear() {
        int before = keeps ? 1 : 0;
        keeps = false;
        return before;
    }

    public int count(int what) {
        switch (what) {
            case 0: return live.told;
            case 1: return live.people;
            case 2: return live.jokes;
            case 3: return live.treasury;
            case 4: return live.together(live.purse);
            case 5: return tape.length;
            case 6: return live.z;
            case 7: return live.spotsHolding();
            default: return found(BEYOND);
        }
    }

    public int status(int which) {
        if (!within(which, -1, FINDINGS - 1)) {
            return found(BEYOND);
        }
        if (which >= 0) {
            return findings[which];
        }
        int all = 0;
        for (int i = 0; i < FINDINGS; i++) {
            all += findings[i];
        }
        return all;
    }

    // ---- what the calls share

    /** Counted here alone, as an ordinary answer (z above all) may have the number of a finding. */
    private int found(int finding) {
        int which = BEYOND - finding;
        if (within(which, 0, FINDINGS - 1)) {
            findings[which]++;
        }
        return finding;
    }

    private static boolean within(int v, int least, int most) {
        return v >= least && v <= most;
    }

    private static boolean isIn(int set, int one) {
        return (set >> one & 1) == 1;
    }

    private static boolean isSmaller(int set, int other) {
        return Integer.bitCount(set) < Integer.bitCount(other);
    }

    private static boolean isKind(int kind) {
        return within(kind, 0, KINDS - 1);
    }

    private static boolean isSeat(int seat) {
        return within(seat, 0, LAST_SEAT);
    }

    private static boolean isTopics(int topics) {
        return within(topics, 1, ALL_TOPICS);
    }

    private static boolean isFun(int fun) {
        return within(fun, 0, MOST_FUN);
    }

    private boolean hasPerson(int person) {
        return within(person, 0, live.people - 1);
    }

    private boolean hasJoke(int joke) {
        return within(joke, 0, live.jokes - 1);
    }

    private static boolean canBecome(int what, int v) {
        switch (what) {
            case 0: return isKind(v);
            case 1: return isSeat(v);
            case 2: return within(v, 0, ALL_TOPICS);
            case 3: return within(v, 0, MOST_MOOD);
            case 4: return within(v, 0, MOST_PURSE);
            default: return false;
        }
    }

    private static int replace(int[] row, int person, int v) {
        int before = row[person];
        row[person] = v;
        return before;
    }

    private int moveTo(int person, int seat) {
        int before = live.seat[person];
        live.setSeat(person, seat);
        return before;
    }

    private int laughingAt(int topics, int fun) {
        int starters = telling.startersOf(live, topics, fun);
        return Integer.bitCount(telling.spread(live, starters, live.everybody()));
    }

    private int sheetFinding(int s) {
        if (!within(s, 0, SHEETS - 1)) {
            return BEYOND;
        }
        return sheets[s].isMissing() ? MISSING : FINE;
    }

    private int paymentsFinding(int s, int person, int joke) {
        int finding = sheetFinding(s);
        if (finding != FINE) {
            return finding;
        }
        return hasPerson(person) && hasJoke(joke) ? FINE : BEYOND;
    }

    private boolean fits(Sheet payments, int person, int joke, int taste) {
        trial.takeOver(live);
        trial.taste[person] = taste;
        for (int i = 0; i < payments.length; i++) {
            telling.perform(trial, joke);
            if (!payments.tells(i, telling.paid[person])) {
                return false;
            }
        }
        return true;
    }

    /** One part of a fraction, by the greatest number that divides the other part, too. */
    private static int inLowestTerms(int part, int other) {
        for (int d = Math.max(part, other); d > 1; d--) {
            if (part % d == 0 && other % d == 0) {
                return part / d;
            }
        }
        return part;
    }

    private static long power(int base, int n) {
        long product = 1;
        for (int i = 0; i < n; i++) {
            product *= base;
        }
        return product;
    }

    // ---- what the calls are played with

    /** What the KINDS differ in. */
    private static final class Kinds {
        private static final int HEARER = 0;
        private static final int STRAIGHT = 1;
        private static final int GIGGLER = 2;
        private static final int AUNT = 3;
        private static final int FOOL = 4;
        private static final int CHILD = 5;
        private static final int INSPECTOR = 6;
        private static final int NOTHING = -1;
        /** By KINDS: the one that each is under. */
        private static final int[] ABOVE = {NOTHING, HEARER, HEARER, GIGGLER, AUNT, HEARER, STRAIGHT};

        private static final int HEARER_BOUND = 8;
        private static final int GIGGLER_BOUND = HEARER_BOUND / 2;
        private static final int AUNT_BOUND = GIGGLER_BOUND - 1;
        private static final int MOST_OF_PURSE = 20;
        private static final int HEARER_NUMBER = 2;
        private static final int STRAIGHT_NUMBER = 3;
        private static final int MERRY_CHILD = 5;

        static boolean isA(int kind, int wanted) {
            int above = kind;
            for (int i = 0; i < KINDS && above != NOTHING; i++) {
                if (above == wanted) {
                    return true;
                }
                above = ABOVE[above];
            }
            return false;
        }

        static int bound(int kind, int purse) {
            int straight = HEARER_BOUND + Math.min(MOST_OF_PURSE, purse / 10);
            switch (kind) {
                case STRAIGHT: return straight;
                case INSPECTOR: return straight + 4;
                case GIGGLER: return GIGGLER_BOUND;
                case AUNT: return AUNT_BOUND;
                case FOOL: return AUNT_BOUND + 90;
                case CHILD: return HEARER_BOUND - 3;
                default: return HEARER_BOUND;
            }
        }

        static int number(int kind, int mood) {
            switch (kind) {
                case STRAIGHT: return STRAIGHT_NUMBER;
                case INSPECTOR: return STRAIGHT_NUMBER * 2;
                case GIGGLER: return 1;
                case AUNT: return 1;
                case FOOL: return 9;
                case CHILD: return mood >= MERRY_CHILD ? HEARER_NUMBER - 1 : HEARER_NUMBER;
                default: return HEARER_NUMBER;
            }
        }

        static int seconds(int kind, int strength) {
            int hearer = Math.min(30, Math.max(1, strength));
            switch (kind) {
                case STRAIGHT: return hearer / 2 + 1;
                case INSPECTOR: return 1;
                case GIGGLER: return hearer * 2;
                case AUNT: return hearer * 2 + 5;
                case FOOL: return 0;
                default: return hearer;
            }
        }
    }

    /** All that an image keeps. */
    private static final class Room {
        static final int NOBODY = -1;

        private int people;
        private final int[] kind = new int[PEOPLE];
        private final int[] seat = new int[PEOPLE];
        private final int[] taste = new int[PEOPLE];
        private final int[] mood = new int[PEOPLE];
        private final int[] purse = new int[PEOPLE];
        /** Who is NEAR each, as a set: renewed with each change of PEOPLE, SEATS and REACH. */
        private final int[] near = new int[PEOPLE];
        private int jokes;
        private final int[] topics = new int[JOKES];
        private final int[] fun = new int[JOKES];
        private int rate = 1;
        private int reach = 2;
        private int treasury;
        private int told;
        private int z = 1;
        private final int[] spots = new int[SPOTS];

        Room() {
            for (int i = 0; i < SPOTS; i++) {
                spots[i] = NOBODY;
            }
        }

        void takeOver(Room other) {
            people = other.people;
            System.arraycopy(other.kind, 0, kind, 0, PEOPLE);
            System.arraycopy(other.seat, 0, seat, 0, PEOPLE);
            System.arraycopy(other.taste, 0, taste, 0, PEOPLE);
            System.arraycopy(other.mood, 0, mood, 0, PEOPLE);
            System.arraycopy(other.purse, 0, purse, 0, PEOPLE);
            System.arraycopy(other.near, 0, near, 0, PEOPLE);
            jokes = other.jokes;
            System.arraycopy(other.topics, 0, topics, 0, JOKES);
            System.arraycopy(other.fun, 0, fun, 0, JOKES);
            rate = other.rate;
            reach = other.reach;
            treasury = other.treasury;
            told = other.told;
            z = other.z;
            System.arraycopy(other.spots, 0, spots, 0, SPOTS);
        }

        /** Only while there are fewer than PEOPLE. */
        int addPerson(int newKind, int newSeat) {
            int person = people;
            people++;
            kind[person] = newKind;
            seat[person] = newSeat;
            taste[person] = 1;
            mood[person] = 3;
            purse[person] = 100;
            renewNear();
            return person;
        }

        /** Only while there are fewer than JOKES. */
        int addJoke(int newTopics, int newFun) {
            int joke = jokes;
            jokes++;
            topics[joke] = newTopics;
            fun[joke] = newFun;
            return joke;
        }

        void setSeat(int person, int newSeat) {
            seat[person] = newSeat;
            renewNear();
        }

        void setReach(int newReach) {
            reach = newReach;
            renewNear();
        }

        private void renewNear() {
            for (int p = 0; p < people; p++) {
                int set = 0;
                for (int q = 0; q < people; q++) {
                    if (q != p && Math.abs(seat[p] - seat[q]) <= reach) {
                        set |= 1 << q;
                    }
                }
                near[p] = set;
            }
        }

        int everybody() {
            return (1 << people) - 1;
        }

        int strengthFor(int person, int ofTopics, int ofFun) {
            return ofFun * Integer.bitCount(ofTopics & taste[person]) + mood[person];
        }

        int dueFrom(int person, int strength) {
            return Kinds.seconds(kind[person], strength) * rate * Integer.bitCount(near[person]) / 10;
        }

        int together(int[] row) {
            int sum = 0;
            for (int p = 0; p < people; p++) {
                sum += row[p];
            }
            return sum;
        }

        int poorest() {
            int poorest = 0;
            for (int p = 1; p < people; p++) {
                if (purse[p] < purse[poorest]) {
                    poorest = p;
                }
            }
            return poorest;
        }

        /** A draw's rest by a number that is 1 or more. */
        int drawBelow(int number) {
            z = z * 1103515245 + 12345;
            return number > 0 ? (z >>> 8) % number : 0;
        }

        int spotsHolding() {
            int holding = 0;
            for (int i = 0; i < SPOTS; i++) {
                if (spots[i] != NOBODY) {
                    holding++;
                }
            }
            return holding;
        }
    }

    /** A JOKE that is TOLD in a room; what came of the latest one stays here to be looked at. */
    private static final class Telling {
        /** 0: by itself; else the round of catching; of those that didn't LAUGH it says nothing. */
        private final int[] roundOf = new int[PEOPLE];
        private final int[] paid = new int[PEOPLE];
        private int lastRound;

        /** Who LAUGHS by itself. */
        int startersOf(Room room, int topics, int fun) {
            int set = 0;
            for (int p = 0; p < room.people; p++) {
                if (room.strengthFor(p, topics, fun) >= Kinds.bound(room.kind[p], room.purse[p])) {
                    set |= 1 << p;
                }
            }
            return set;
        }

        int laughersOf(Room room, int joke) {
            int starters = startersOf(room, room.topics[joke], room.fun[joke]);
            return spread(room, starters, room.everybody());
        }

        /** All that LAUGH, if just the starters do by themselves and only those present are there. */
        int spread(Room room, int starters, int present) {
            int laughing = starters;
            lastRound = 0;
            noteRound(starters, 0);
            for (int round = 1; round <= PEOPLE; round++) {
                int catching = catchersFrom(room, laughing, present & ~laughing);
                if (catching == 0) {
                    break;
                }
                lastRound = round;
                noteRound(catching, round);
                laughing |= catching;
            }
            return laughing;
        }

        private int catchersFrom(Room room, int laughing, int others) {
            int catching = 0;
            for (int p = 0; p < room.people; p++) {
                int heard = Integer.bitCount(room.near[p] & laughing);
                if (isIn(others, p) && heard >= Kinds.number(room.kind[p], room.mood[p])) {
                    catching |= 1 << p;
                }
            }
            return catching;
        }

        private void noteRound(int set, int round) {
            for (int p = 0; p < PEOPLE; p++) {
                if (isIn(set, p)) {
                    roundOf[p] = round;
                }
            }
        }

        /** The JOKE is TOLD: who LAUGHED. */
        int perform(Room room, int joke) {
            int laughed = laughersOf(room, joke);
            for (int p = 0; p < room.people; p++) {
                int strength = room.strengthFor(p, room.topics[joke], room.fun[joke]);
                paid[p] = isIn(laughed, p) ? collect(room, p, room.dueFrom(p, strength)) : 0;
            }
            for (int p = 0; p < room.people; p++) {
                int step = isIn(laughed, p) ? 1 : -1;
                room.mood[p] = Math.max(0, Math.min(MOST_MOOD, room.mood[p] + step));
            }
            room.told = Math.min(MOST_TOLD, room.told + 1);
            return laughed;
        }

        private int collect(Room room, int person, int due) {
            int pays = Math.min(due, Math.min(room.purse[person], MOST_TREASURY - room.treasury));
            room.purse[person] -= pays;
            room.treasury += pays;
            return pays;
        }

        int performOften(Room room, int joke, int times) {
            for (int i = 0; i < times; i++) {
                perform(room, joke);
            }
            return room.treasury;
        }
    }

    /** A row of numbers; each is held with its sign, cut to its bits when it is put. */
    private static final class Sheet {
        private final int[] numbers = new int[SHEET_LENGTH];
        /** 0: it is MISSING. */
        private int bits;
        private int length;

        void begin(int newBits, int newLength) {
            bits = newBits;
            length = newLength;
            for (int i = 0; i < SHEET_LENGTH; i++) {
                numbers[i] = 0;
            }
        }

        boolean isMissing() {
            return bits == 0;
        }

        void put(int i, int v) {
            if (bits == 8) {
                numbers[i] = (byte) v;
            } else if (bits == 16) {
                numbers[i] = (short) v;
            } else {
                numbers[i] = v;
            }
        }

        boolean has(int from, int n) {
            return from >= 0 && n >= 0 && n <= length && from <= length - n;
        }

        boolean tells(int i, int payment) {
            return numbers[i] == ANY || numbers[i] == payment;
        }

        boolean tellsFirst(int[] payments, int people) {
            int numbersToo = Math.min(people, length);
            for (int i = 0; i < numbersToo; i++) {
                if (!tells(i, payments[i])) {
                    return false;
                }
            }
            return true;
        }
    }

    /** THE TAPE, and the reading of a TEXT from it, one TOKEN looked at at a time. */
    private static final class Tape {
        private static final int END = 0;
        private static final int WORD = 1;
        private static final int NUMBER = 2;
        private static final int SIGN = 3;
        private static final int OTHER = 4;
        private static final int TOO_GREAT = 10000;

        private final byte[] bytes = new byte[TAPE_LENGTH];
        private int length;
        /** The TOKEN looked at: what it is, its first byte, the place behind it, a NUMBER's value. */
        private int token;
        private int start;
        private int behind;
        private int value;
        /** The NUMBER that was read latest, or what stands for it where it isn't told. */
        private int taken;

        /** Only while there are fewer than TAPE_LENGTH. */
        void put(byte b) {
            bytes[length] = b;
            length++;
        }

        /** How many ITEMS; or -1 less the FAULT, which is always where the TOKEN looked at begins. */
        int readInto(Room room) {
            behind = 0;
            step();
            for (int items = 1; items <= TAPE_LENGTH; items++) {
                if (!readItem(room)) {
                    break;
                }
                if (token == END) {
                    return items;
                }
                if (token != SIGN) {
                    break;
                }
                step();
            }
            return -1 - start;
        }

        private boolean readItem(Room room) {
            for (int kind = 0; kind < KINDS; kind++) {
                if (isWord(wordOf(kind))) {
                    return readPerson(room, kind);
                }
            }
            if (isWord("joke")) {
                return readJoke(room);
            }
            if (isWord("rate")) {
                return readRate(room);
            }
            return isWord("reach") && readReach(room);
        }

        private boolean readPerson(Room room, int kind) {
            if (room.people >= PEOPLE) {
                return false;
            }
            step();
            int person = room.addPerson(kind, 0);
            if (!readPart("on", LAST_SEAT, room.seat[person])) {
                return false;
            }
            room.setSeat(person, taken);
            if (!readPart("taste", ALL_TOPICS, room.taste[person])) {
                return false;
            }
            room.taste[person] = taken;
            if (!readPart("mood", MOST_MOOD, room.mood[person])) {
                return false;
            }
            room.mood[person] = taken;
            if (!readPart("purse", MOST_PURSE, room.purse[person])) {
                return false;
            }
            room.purse[person] = taken;
            return true;
        }

        private boolean readJoke(Room room) {
            if (room.jokes >= JOKES) {
                return false;
            }
            step();
            if (!readNumber(1, ALL_TOPICS)) {
                return false;
            }
            int topics = taken;
            if (!readNumber(0, MOST_FUN)) {
                return false;
            }
            room.addJoke(topics, taken);
            return true;
        }

        private boolean readRate(Room room) {
            step();
            if (!readNumber(0, MOST_RATE)) {
                return false;
            }
            room.rate = taken;
            return true;
        }

        private boolean readReach(Room room) {
            step();
            if (!readNumber(0, MOST_REACH)) {
                return false;
            }
            room.setReach(taken);
            return true;
        }

        /** Takes the NUMBER behind a WORD, or what is so without them; false with a FAULT. */
        private boolean readPart(String word, int most, int without) {
            if (!isWord(word)) {
                taken = without;
                return true;
            }
            step();
            return readNumber(0, most);
        }

        private boolean readNumber(int least, int most) {
            if (token != NUMBER || !within(value, least, most)) {
                return false;
            }
            taken = value;
            step();
            return true;
        }

        private boolean isWord(String word) {
            if (token != WORD || behind - start != word.length()) {
                return false;
            }
            for (int i = 0; i < word.length(); i++) {
                if (bytes[start + i] != word.charAt(i)) {
                    return false;
                }
            }
            return true;
        }

        private static String wordOf(int kind) {
            switch (kind) {
                case 0: return "hearer";
                case 1: return "straight";
                case 2: return "giggler";
                case 3: return "aunt";
                case 4: return "fool";
                case 5: return "child";
                default: return "inspector";
            }
        }

        private void step() {
            start = behind;
            while (start < length && bytes[start] == ' ') {
                start++;
            }
            token = start < length ? tokenOf(bytes[start]) : END;
            behind = start;
            value = 0;
            int longest = token == WORD || token == NUMBER ? length : Math.min(length, start + 1);
            while (behind < longest && tokenOf(bytes[behind]) == token) {
                if (token == NUMBER) {
                    value = Math.min(TOO_GREAT, value * 10 + (bytes[behind] - '0'));
                }
                behind++;
            }
        }

        private static int tokenOf(byte b) {
            if (b >= 'a' && b <= 'z') {
                return WORD;
            }
            if (b >= '0' && b <= '9') {
                return NUMBER;
            }
            return b == ';' ? SIGN : OTHER;
        }
    }
}
