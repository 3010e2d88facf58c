import java.math.BigInteger;
import java.util.ArrayDeque;
import java.util.ArrayList;
import java.util.Arrays;
import java.util.List;
import java.util.Random;
import java.util.regex.Matcher;
import java.util.regex.Pattern;

/**
 * Long runs of calls by fixed seeds, each answer held against a second, slow telling of the document
 * that shares nothing with the class: people are small rows that are copied whole, sets are tried one by one.
 */
public final class ModelTest {
    private static final int RUNS = 3000;
    private static final int CALLS = 400;

    public static void main(String[] args) {
        int wrong = 0;
        for (int run = 0; run < RUNS && wrong < 5; run++) {
            if (!agrees(run)) {
                wrong++;
            }
        }
        System.out.println(wrong == 0 ? RUNS + " runs agree with the model" : wrong + " runs don't agree");
        if (wrong != 0) {
            System.exit(1);
        }
    }

    private static boolean agrees(int run) {
        Random r = new Random(run);
        LaughTax x = new LaughTax();
        Model m = new Model();
        Calls calls = new Calls();
        List<String> log = new ArrayList<>();
        for (int i = 0; i < CALLS; i++) {
            int[] call = calls.next(r, m);
            long got = Calls.onClass(x, call);
            long want = Calls.onModel(m, call);
            log.add(Calls.NAMES[call[0]] + Arrays.toString(Arrays.copyOfRange(call, 1, call.length)) + " " + got);
            if (got != want) {
                System.out.println("run " + run + ", call " + i + ": due is " + want);
                log.stream().skip(Math.max(0, log.size() - 40)).forEach(System.out::println);
                return false;
            }
        }
        return true;
    }

    /** A call is a row: the number of its name, then its arguments. */
    private static final class Calls {
        static final String[] NAMES = ("person of change joke jokeOf law strength tell evening now relief laugh rounds"
                + " raised ahead stale broke caught starter fewest away seatFor kindFor reachFor rateFor best quiet safe"
                + " tastes taste which shows odds seed feed wipe text hold as sheet write copy load judge image undo"
                + " tear count status").split(" ");
        /** One of PEOPLE, a JOKE, a number that has its own way. */
        private static final int P = -1;
        private static final int J = -2;
        private static final int OWN = -3;
        /** Of each argument the number above its ordinary ones, or what it is. */
        private static final int[][] ENDS = {
            {7, 16}, {P, 8}, {P, 5, OWN}, {64, 10}, {J, 2}, {2, 21}, {J, P, 3}, {J}, {J, 61}, {6}, {10000}, {J, 2}, {J},
            {J}, {J, 61}, {J}, {J, P}, {256}, {}, {}, {J, 9}, {P, J}, {P, J}, {J}, {J, 21}, {10}, {10}, {64},
            {4, P, J}, {4, P, J}, {4}, {21}, {15, 2}, {OWN}, {OWN, 5}, {}, {}, {10, P}, {10, 7}, {4, OWN, 41},
            {4, 40, OWN}, {4, 12, 4, 12, 12}, {4}, {4}, {}, {}, {}, {8}, {7}};
        /** How often each is called. */
        private static final int[] OFTEN = {
            4, 9, 9, 4, 2, 3, 8, 3, 3, 4, 3, 6, 4, 4, 4, 3, 4, 5, 4, 3, 4, 4, 4, 4, 3, 3, 3, 4,
            4, 4, 5, 3, 3, 1, 1, 1, 2, 5, 5, 2, 9, 4, 3, 5, 1, 1, 1, 4, 4};
        private static final String[] PIECES = (";|;|;|;|;| |  |hearer|straight|giggler|aunt|fool|child|inspector|on|taste"
                + "|mood|purse|joke|rate|reach| 0| 1| 3| 9| 15| 16| 20| 63| 64| 007| 9999| 10000|0|5|x|!|hearer on 3"
                + "|aunt taste 7 mood 6|child on 6 taste 33 mood 6|inspector purse 0|joke 3 4|joke 63 9|rate 3|reach 2"
                + "|straight on 2 taste 5 purse 40|giggler taste 63").split("\\|");

        /** Calls that belong together are put here, and come one by one. */
        private final ArrayDeque<int[]> waiting = new ArrayDeque<>();

        private int[] next(Random r, Model m) {
            if (waiting.isEmpty()) {
                draw(r, m);
            }
            return waiting.remove();
        }

        private static int named(String name) {
            return Arrays.asList(NAMES).indexOf(name);
        }

        private void draw(Random r, Model m) {
            int all = Arrays.stream(OFTEN).sum();
            int drawn = r.nextInt(all);
            int name = 0;
            while (drawn >= OFTEN[name]) {
                drawn -= OFTEN[name];
                name++;
            }
            // a room that is empty for long tells little
            if (m.state.people.size() < 5 && r.nextInt(4) == 0) {
                name = named("person");
            }
            if (m.state.jokes.size() < 3 && r.nextInt(4) == 0) {
                name = named("joke");
            }
            if (Arrays.asList(m.sheets).contains(null) && r.nextInt(8) == 0) {
                name = named("sheet");
            }
            if (NAMES[name].equals("text")) {
                drawText(r);
                return;
            }
            if (NAMES[name].startsWith("taste") && r.nextBoolean() && !m.state.people.isEmpty() && !m.state.jokes.isEmpty()) {
                drawPayments(r, m, name);
                return;
            }
            int[] call = new int[1 + ENDS[name].length];
            call[0] = name;
            for (int i = 1; i < call.length; i++) {
                call[i] = argument(r, m, name, i);
            }
            waiting.add(call);
        }

        /** A text of sense, with a piece put in, left out or written over now and then. */
        private void drawText(Random r) {
            List<String> pieces = new ArrayList<>();
            int items = 1 + r.nextInt(5);
            for (int i = 0; i < items; i++) {
                addItem(r, pieces);
                pieces.add(i + 1 < items ? ";" : " ");
            }
            int at = r.nextInt(pieces.size());
            switch (r.nextInt(6)) {
                case 0: pieces.add(at, PIECES[r.nextInt(PIECES.length)]); break;
                case 1: pieces.remove(at); break;
                case 2: pieces.set(at, PIECES[r.nextInt(PIECES.length)]); break;
                default: break;
            }
            String text = String.join(r.nextInt(5) == 0 ? "" : " ", pieces);
            waiting.add(new int[] {named("wipe")});
            for (int i = 0; i < text.length();) {
                int n = Math.min(text.length() - i, 1 + r.nextInt(4));
                int bytes = r.nextInt();
                for (int k = 0; k < n; k++) {
                    bytes = bytes << 8 | text.charAt(i + k);
                }
                waiting.add(new int[] {named("feed"), bytes, n});
                i += n;
            }
            waiting.add(new int[] {named("text")});
        }

        private static void addItem(Random r, List<String> pieces) {
            switch (r.nextInt(6)) {
                case 0: addAll(pieces, "joke", number(r, 64), number(r, 10)); break;
                case 1: addAll(pieces, "rate", number(r, 21)); break;
                case 2: addAll(pieces, "reach", number(r, 16)); break;
                default:
                    pieces.add(Model.WORDS[r.nextInt(7)]);
                    String[] words = {"on", "taste", "mood", "purse"};
                    int[] ends = {16, 64, 10, 10000};
                    for (int i = 0; i < 4; i++) {
                        if (r.nextInt(3) == 0) {
                            addAll(pieces, words[i], number(r, ends[i]));
                        }
                    }
            }
        }

        private static void addAll(List<String> pieces, String... some) {
            pieces.addAll(Arrays.asList(some));
        }

        private static String number(Random r, int end) {
            return (r.nextInt(8) == 0 ? "00" : "") + (r.nextInt(25) == 0 ? end : r.nextInt(end));
        }

        /** What one with some TASTE would pay, with gaps, so that some fit. */
        private void drawPayments(Random r, Model m, int name) {
            int person = r.nextInt(m.state.people.size());
            int joke = r.nextInt(m.state.jokes.size());
            int s = r.nextInt(4);
            int n = 1 + r.nextInt(5);
            State state = m.state.again();
            state.people.get(person)[2] = r.nextInt(64);
            waiting.add(new int[] {named("sheet"), s, 16, n});
            for (int i = 0; i < n; i++) {
                state.tell(state.jokes.get(joke));
                waiting.add(new int[] {named("write"), s, i, r.nextInt(4) == 0 ? -1 : state.paid[person]});
            }
            waiting.add(new int[] {name, s, person, joke});
        }

        private static int argument(Random r, Model m, int name, int i) {
            int end = ENDS[name][i - 1];
            if (r.nextInt(60) == 0) {
                int[] odd = {-1, -2, end, end + 1, 7, 8, Integer.MIN_VALUE, Integer.MAX_VALUE, 1 << 20, -256};
                return odd[r.nextInt(odd.length)];
            }
            if (end == OWN) {
                return special(r, name);
            }
            if (end == P || end == J) {
                return r.nextInt(Math.max(1, end == P ? m.state.people.size() : m.state.jokes.size()));
            }
            if (end == 256 && r.nextInt(8) != 0) {
                return r.nextInt(1 << m.state.people.size());
            }
            if (NAMES[name].equals("sheet") && i == 3) {
                return r.nextInt(r.nextBoolean() ? 5 : 41);
            }
            if (NAMES[name].equals("write") && i == 2) {
                return r.nextInt(5);
            }
            if (NAMES[name].equals("relief")) {
                return r.nextInt(r.nextBoolean() ? 30 : end);
            }
            if (NAMES[name].equals("copy") && (i % 2 == 0 || i == 5)) {
                return r.nextInt(4);
            }
            return r.nextInt(end);
        }

        private static int special(Random r, int name) {
            switch (NAMES[name]) {
                case "change": {
                    int[] some = {0, 1, 2, 3, 4, 5, 6, 7, 9, 15, 33, 63, 100, 150, 250, 9999};
                    return some[r.nextInt(some.length)];
                }
                case "sheet": {
                    int[] bits = {8, 8, 8, 8, 16, 16, 32, 0, 24};
                    return bits[r.nextInt(bits.length)];
                }
                case "write": {
                    int[] some = {-1, -1, 0, 0, 0, 1, 2, 3, 4, 5, 6, 7, 15, 16, 255, 256, 65535, 65536 + 2};
                    return some[r.nextInt(some.length)];
                }
                default: return r.nextInt();
            }
        }

        static long onClass(LaughTax x, int[] c) {
            switch (NAMES[c[0]]) {
                case "person": return x.person(c[1], c[2]);
                case "of": return x.of(c[1], c[2]);
                case "change": return x.change(c[1], c[2], c[3]);
                case "joke": return x.joke(c[1], c[2]);
                case "jokeOf": return x.jokeOf(c[1], c[2]);
                case "law": return x.law(c[1], c[2]);
                case "strength": return x.strength(c[1], c[2], c[3]);
                case "tell": return x.tell(c[1]);
                case "evening": return x.evening(c[1], c[2]);
                case "now": return x.now(c[1]);
                case "relief": return x.relief(c[1]);
                case "laugh": return x.laugh(c[1], c[2]);
                case "rounds": return x.rounds(c[1]);
                case "raised": return x.raised(c[1]);
                case "ahead": return x.ahead(c[1], c[2]);
                case "stale": return x.stale(c[1]);
                case "broke": return x.broke(c[1], c[2]);
                case "caught": return x.caught(c[1]);
                case "starter": return x.starter();
                case "fewest": return x.fewest();
                case "away": return x.away(c[1], c[2]);
                case "seatFor": return x.seatFor(c[1], c[2]);
                case "kindFor": return x.kindFor(c[1], c[2]);
                case "reachFor": return x.reachFor(c[1]);
                case "rateFor": return x.rateFor(c[1], c[2]);
                case "best": return x.best(c[1]);
                case "quiet": return x.quiet(c[1]);
                case "safe": return x.safe(c[1]);
                case "tastes": return x.tastes(c[1], c[2], c[3]);
                case "taste": return x.taste(c[1], c[2], c[3]);
                case "which": return x.which(c[1]);
                case "shows": return x.shows(c[1]);
                case "odds": return x.odds(c[1], c[2]);
                case "seed": return x.seed(c[1]);
                case "feed": return x.feed(c[1], c[2]);
                case "wipe": return x.wipe();
                case "text": return x.text();
                case "hold": return x.hold(c[1], c[2]);
                case "as": return x.as(c[1], c[2]);
                case "sheet": return x.sheet(c[1], c[2], c[3]);
                case "write": return x.write(c[1], c[2], c[3]);
                case "copy": return x.copy(c[1], c[2], c[3], c[4], c[5]);
                case "load": return x.load(c[1]);
                case "judge": return x.judge(c[1]);
                case "image": return x.image();
                case "undo": return x.undo();
                case "tear": return x.tear();
                case "count": return x.count(c[1]);
                default: return x.status(c[1]);
            }
        }

        static long onModel(Model m, int[] c) {
            try {
                return m.call(NAMES[c[0]], Arrays.copyOfRange(c, 1, 6));
            } catch (Finding f) {
                m.findings.add(f.number);
                return -1000001 - f.number;
            }
        }
    }

    private static final class Finding extends RuntimeException {
        private static final long serialVersionUID = 1;
        final int number;

        Finding(int number) {
            super(null, null, false, false);
            this.number = number;
        }
    }

    private static final class State {
        /** KIND, SEAT, TASTE, MOOD, PURSE. */
        List<int[]> people = new ArrayList<>();
        List<int[]> jokes = new ArrayList<>();
        int[] law = {1, 2};
        int treasury = 0;
        int told = 0;
        int z = 1;
        int[] spots = {-1, -1, -1, -1, -1, -1, -1, -1, -1, -1};
        int[] paid = {};

        State again() {
            State s = new State();
            people.forEach(p -> s.people.add(p.clone()));
            jokes.forEach(j -> s.jokes.add(j.clone()));
            s.law = law.clone();
            s.treasury = treasury;
            s.told = told;
            s.z = z;
            s.spots = spots.clone();
            return s;
        }

        int strength(int[] joke, int[] p) {
            int both = 0;
            for (int t = 0; t < 6; t++) {
                both += (joke[0] >> t) & (p[2] >> t) & 1;
            }
            return joke[1] * both + p[3];
        }

        static int bound(int kind, int[] p) {
            switch (kind) {
                case 0: return 8;
                case 1: return 8 + (p[4] / 10 > 20 ? 20 : p[4] / 10);
                case 2: return bound(0, p) / 2;
                case 3: return bound(2, p) - 1;
                case 4: return bound(3, p) + 90;
                case 5: return bound(0, p) - 3;
                default: return bound(1, p) + 4;
            }
        }

        static int number(int[] p) {
            int[] plain = {2, 3, 1, 1, 9, 2, 6};
            return p[0] == 5 && p[3] >= 5 ? 1 : plain[p[0]];
        }

        static int seconds(int kind, int strength) {
            switch (kind) {
                case 1: return seconds(0, strength) / 2 + 1;
                case 2: return seconds(0, strength) * 2;
                case 3: return seconds(2, strength) + 5;
                case 4: return 0;
                case 6: return 1;
                default: return strength < 1 ? 1 : strength > 30 ? 30 : strength;
            }
        }

        boolean near(int p, int q) {
            int d = people.get(p)[1] - people.get(q)[1];
            return p != q && d <= law[1] && -d <= law[1];
        }

        int nearOf(int p) {
            int n = 0;
            for (int q = 0; q < people.size(); q++) {
                n += near(p, q) ? 1 : 0;
            }
            return n;
        }

        int due(int[] joke, int p) {
            return seconds(people.get(p)[0], strength(joke, people.get(p))) * law[0] * nearOf(p) / 10;
        }

        boolean begins(int[] joke, int p) {
            return strength(joke, people.get(p)) >= bound(people.get(p)[0], people.get(p));
        }

        /** The round in which each laughs, or -1; those of gone aren't there. */
        int[] rounds(boolean[] starts, boolean[] gone) {
            int[] round = new int[people.size()];
            for (int p = 0; p < round.length; p++) {
                round[p] = starts[p] && !gone[p] ? 0 : -1;
            }
            boolean more = true;
            for (int r = 1; more; r++) {
                more = false;
                for (int p = 0; p < round.length; p++) {
                    int laughing = 0;
                    for (int q = 0; q < round.length; q++) {
                        laughing += near(p, q) && round[q] >= 0 && round[q] < r ? 1 : 0;
                    }
                    if (round[p] < 0 && !gone[p] && laughing >= number(people.get(p))) {
                        round[p] = r;
                        more = true;
                    }
                }
            }
            return round;
        }

        boolean[] starts(int[] joke) {
            boolean[] starts = new boolean[people.size()];
            for (int p = 0; p < starts.length; p++) {
                starts[p] = begins(joke, p);
            }
            return starts;
        }

        int[] rounds(int[] joke) {
            return rounds(starts(joke), new boolean[people.size()]);
        }

        int laughing(int[] joke) {
            return howMany(rounds(joke));
        }

        int tell(int[] joke) {
            int[] round = rounds(joke);
            paid = new int[round.length];
            for (int p = 0; p < round.length; p++) {
                int due = round[p] >= 0 ? due(joke, p) : 0;
                while (due > 0 && people.get(p)[4] > 0 && treasury < 999999) {
                    due--;
                    people.get(p)[4]--;
                    treasury++;
                    paid[p]++;
                }
            }
            for (int p = 0; p < round.length; p++) {
                int mood = people.get(p)[3];
                people.get(p)[3] = round[p] >= 0 ? (mood == 9 ? 9 : mood + 1) : (mood == 0 ? 0 : mood - 1);
            }
            told++;
            return set(round);
        }

        State behind(int[] joke, int n) {
            State s = again();
            for (int i = 0; i < n; i++) {
                s.tell(joke);
            }
            return s;
        }

        int sum(int what) {
            int sum = 0;
            for (int[] p : people) {
                sum += p[what];
            }
            return sum;
        }
    }

    private static int set(int[] round) {
        int set = 0;
        for (int p = 0; p < round.length; p++) {
            set += round[p] >= 0 ? 1 << p : 0;
        }
        return set;
    }

    private static int howMany(int[] round) {
        int n = 0;
        for (int at : round) {
            n += at >= 0 ? 1 : 0;
        }
        return n;
    }

    private static boolean[] members(int set, int n) {
        boolean[] in = new boolean[n];
        for (int p = 0; p < n; p++) {
            in[p] = (set & 1 << p) != 0;
        }
        return in;
    }

    private static final class Model {
        private static final int BEYOND = 0;
        private static final int FULL = 1;
        private static final int KIND = 2;
        private static final int NONE = 3;
        private static final int STATE = 4;
        private static final int MISSING = 5;
        private static final int SIZE = 6;
        private static final String[] WORDS = {"hearer", "straight", "giggler", "aunt", "fool", "child", "inspector"};
        private static final int[][] SELF_AND_ABOVE = {{0}, {1, 0}, {2, 0}, {3, 2, 0}, {4, 3, 2, 0}, {5, 0}, {6, 1, 0}};

        State state = new State();
        State kept = null;
        String tape = "";
        int[] bits = new int[4];
        int[][] sheets = new int[4][];
        List<Integer> findings = new ArrayList<>();

        private static void refuse(int finding, boolean when) {
            if (when) {
                throw new Finding(finding);
            }
        }

        private static void range(int v, int least, int most) {
            refuse(BEYOND, v < least || v > most);
        }

        private int[] one(int person) {
            range(person, 0, state.people.size() - 1);
            return state.people.get(person);
        }

        private int[] joke(int joke) {
            range(joke, 0, state.jokes.size() - 1);
            return state.jokes.get(joke);
        }

        private int[] sheet(int s) {
            range(s, 0, 3);
            refuse(MISSING, sheets[s] == null);
            return sheets[s];
        }

        long call(String name, int[] a) {
            switch (name) {
                case "person": case "of": case "change": case "joke": case "jokeOf": case "law": case "strength":
                    return people(name, a);
                case "tell": case "evening": case "now": case "relief": case "shows": case "odds": case "seed":
                    return told(name, a);
                case "laugh": case "rounds": case "raised": case "ahead": case "stale": case "broke":
                    return wouldBe(name, a);
                case "caught": case "starter": case "fewest": case "away": case "seatFor": case "kindFor": case "reachFor":
                    return catching(name, a);
                case "rateFor": case "best": case "quiet": case "safe":
                    return laws(name, a);
                case "tastes": case "taste": case "which": case "judge": case "load":
                    return bySheets(name, a);
                case "sheet": case "write": case "copy": case "hold": case "as":
                    return sheetsAndSpots(name, a);
                default:
                    return rest(name, a);
            }
        }

        private long people(String name, int[] a) {
            int[] most = {6, 15, 63, 9, 9999};
            switch (name) {
                case "person":
                    range(a[0], 0, 6);
                    range(a[1], 0, 15);
                    refuse(FULL, state.people.size() == 8);
                    state.people.add(new int[] {a[0], a[1], 1, 3, 100});
                    return state.people.size() - 1;
                case "of": {
                    int[] p = one(a[0]);
                    range(a[1], 0, 7);
                    return a[1] < 5 ? p[a[1]] : a[1] == 5 ? State.bound(p[0], p) : a[1] == 6 ? State.number(p) : state.nearOf(a[0]);
                }
                case "change": {
                    int[] p = one(a[0]);
                    range(a[1], 0, 4);
                    range(a[2], 0, most[a[1]]);
                    int before = p[a[1]];
                    p[a[1]] = a[2];
                    return before;
                }
                case "joke":
                    range(a[0], 1, 63);
                    range(a[1], 0, 9);
                    refuse(FULL, state.jokes.size() == 8);
                    state.jokes.add(new int[] {a[0], a[1]});
                    return state.jokes.size() - 1;
                case "jokeOf": {
                    int[] j = joke(a[0]);
                    range(a[1], 0, 1);
                    return j[a[1]];
                }
                case "law": {
                    range(a[0], 0, 1);
                    range(a[1], 0, a[0] == 0 ? 20 : 15);
                    int before = state.law[a[0]];
                    state.law[a[0]] = a[1];
                    return before;
                }
                default: {
                    int[] j = joke(a[0]);
                    int[] p = one(a[1]);
                    range(a[2], 0, 2);
                    int strength = state.strength(j, p);
                    return a[2] == 0 ? strength : a[2] == 1 ? State.seconds(p[0], strength) : state.due(j, a[1]);
                }
            }
        }

        private long told(String name, int[] a) {
            switch (name) {
                case "tell": return state.tell(joke(a[0]));
                case "evening":
                    joke(a[0]);
                    range(a[1], 1, 60);
                    for (int i = 0; i < a[1]; i++) {
                        state.tell(joke(a[0]));
                    }
                    return state.treasury;
                case "now": {
                    range(a[0], 0, 5);
                    int[] all = {state.told, state.treasury, state.sum(4), state.sum(3), state.law[0], state.law[1]};
                    return all[a[0]];
                }
                case "relief": return relief(a[0]);
                case "shows":
                    range(a[0], 1, 20);
                    refuse(STATE, state.jokes.isEmpty());
                    for (int i = 0; i < a[0]; i++) {
                        state.z = state.z * 1103515245 + 12345;
                        state.tell(state.jokes.get((int) ((state.z & 0xffffffffL) / 256 % state.jokes.size())));
                    }
                    return state.treasury;
                case "odds": return odds(a[0], a[1]);
                default: {
                    int before = state.z;
                    state.z = a[0];
                    return before;
                }
            }
        }

        /** Shared out level by level, where the class gives unit by unit. */
        private long relief(int n) {
            range(n, 0, 9999);
            refuse(NONE, state.people.isEmpty());
            int left = Math.min(n, state.treasury);
            int came = 0;
            while (left > 0) {
                int least = state.people.stream().mapToInt(p -> p[4]).min().getAsInt();
                if (least == 9999) {
                    break;
                }
                for (int[] p : state.people) {
                    if (p[4] == least && left > 0) {
                        p[4]++;
                        left--;
                        came++;
                    }
                }
            }
            state.treasury -= came;
            return came;
        }

        private long odds(int n, int what) {
            range(n, 0, 14);
            range(what, 0, 1);
            refuse(NONE, state.jokes.isEmpty());
            long funny = state.jokes.stream().filter(j -> state.laughing(j) > 0).count();
            BigInteger above = BigInteger.valueOf(funny).pow(n);
            BigInteger below = BigInteger.valueOf(state.jokes.size()).pow(n);
            return (what == 0 ? above : below).divide(above.gcd(below)).longValueExact();
        }

        private long wouldBe(String name, int[] a) {
            int[] j = joke(a[0]);
            switch (name) {
                case "laugh": {
                    range(a[1], 0, 1);
                    int[] round = state.rounds(j);
                    if (a[1] == 0) {
                        for (int p = 0; p < round.length; p++) {
                            round[p] = round[p] == 0 ? 0 : -1;
                        }
                    }
                    return set(round);
                }
                case "rounds": return Math.max(0, Arrays.stream(state.rounds(j)).max().orElse(0));
                case "raised": return state.behind(j, 1).treasury - state.treasury;
                case "ahead":
                    range(a[1], 0, 60);
                    return state.behind(j, a[1]).treasury;
                case "stale": {
                    State s = state.again();
                    for (int i = 0; i <= 60; i++) {
                        if (s.laughing(j) == 0) {
                            return i;
                        }
                        s.tell(j);
                    }
                    throw new Finding(NONE);
                }
                default: {
                    one(a[1]);
                    State s = state.again();
                    for (int i = 0; i <= 60; i++) {
                        if (s.people.get(a[1])[4] == 0) {
                            return i;
                        }
                        s.tell(j);
                    }
                    throw new Finding(NONE);
                }
            }
        }

        private int[] from(int set) {
            int n = state.people.size();
            return state.rounds(members(set, n), new boolean[n]);
        }

        private long catching(String name, int[] a) {
            int n = state.people.size();
            switch (name) {
                case "caught":
                    range(a[0], 0, (1 << n) - 1);
                    return set(from(a[0]));
                case "starter": {
                    refuse(NONE, n == 0);
                    int best = n - 1;
                    for (int p = n - 1; p >= 0; p--) {
                        best = howMany(from(1 << p)) >= howMany(from(1 << best)) ? p : best;
                    }
                    return best;
                }
                case "fewest":
                    for (int size = 0; size <= n; size++) {
                        for (int set = 0; set < 1 << n; set++) {
                            if (Integer.bitCount(set) == size && howMany(from(set)) == n) {
                                return set;
                            }
                        }
                    }
                    throw new IllegalStateException();
                case "away": {
                    int[] j = joke(a[0]);
                    range(a[1], 0, 8);
                    for (int size = 0; size <= n; size++) {
                        for (int set = 0; set < 1 << n; set++) {
                            if (Integer.bitCount(set) == size && howMany(state.rounds(state.starts(j), members(set, n))) <= a[1]) {
                                return set;
                            }
                        }
                    }
                    throw new IllegalStateException();
                }
                case "reachFor": {
                    int[] j = joke(a[0]);
                    State s = state.again();
                    for (s.law[1] = 0; s.law[1] <= 15; s.law[1]++) {
                        if (s.laughing(j) == n) {
                            return s.law[1];
                        }
                    }
                    throw new Finding(NONE);
                }
                default: return placeOrKind(name.equals("seatFor"), a[0], a[1]);
            }
        }

        private long placeOrKind(boolean place, int person, int joke) {
            one(person);
            int[] j = joke(joke);
            int what = place ? 1 : 0;
            int best = 0;
            int bestYet = Integer.MAX_VALUE;
            for (int v = 0; v <= (place ? 15 : 6); v++) {
                State s = state.again();
                s.people.get(person)[what] = v;
                int worth = place ? s.laughing(j) : -s.laughing(j);
                if (worth < bestYet) {
                    bestYet = worth;
                    best = v;
                }
            }
            return best;
        }

        private long laws(String name, int[] a) {
            int best = -1;
            int yet = 0;
            switch (name) {
                case "rateFor": {
                    int[] j = joke(a[0]);
                    range(a[1], 1, 20);
                    for (int rate = 0; rate <= 20; rate++) {
                        State s = state.again();
                        s.law[0] = rate;
                        int treasury = s.behind(j, a[1]).treasury;
                        if (best < 0 || treasury > yet) {
                            yet = treasury;
                            best = rate;
                        }
                    }
                    return best;
                }
                case "safe":
                    range(a[0], 1, 63);
                    for (int fun = 0; fun <= 9; fun++) {
                        best = state.laughing(new int[] {a[0], fun}) == 0 ? fun : best;
                    }
                    break;
                default:
                    range(a[0], 0, 9);
                    for (int topics = 63; topics >= 1; topics--) {
                        int n = state.laughing(new int[] {topics, a[0]});
                        boolean better = name.equals("best") ? n >= yet : n > 0 && n <= yet;
                        if (better || best < 0 && (n > 0 || name.equals("best"))) {
                            yet = n;
                            best = topics;
                        }
                    }
            }
            refuse(NONE, best < 0);
            return best;
        }

        private long bySheets(String name, int[] a) {
            int[] row = sheet(a[0]);
            switch (name) {
                case "which": {
                    int jokes = 0;
                    for (int j = 0; j < state.jokes.size(); j++) {
                        State s = state.behind(state.jokes.get(j), 1);
                        boolean so = true;
                        for (int p = 0; p < s.people.size() && p < row.length; p++) {
                            so &= row[p] == -1 || row[p] == s.paid[p];
                        }
                        jokes += so ? 1 << j : 0;
                    }
                    return jokes;
                }
                case "load": {
                    int came = 0;
                    while (came < row.length && came < state.people.size() && row[came] >= 0 && row[came] <= 15) {
                        state.people.get(came)[1] = row[came];
                        came++;
                    }
                    return came;
                }
                case "judge": {
                    refuse(STATE, state.jokes.isEmpty());
                    int[] round = state.rounds(state.jokes.get(0));
                    for (int i = 0; i < row.length; i++) {
                        boolean there = row[i] >= 0 && row[i] < round.length && round[row[i]] >= 0;
                        for (int k = 0; k < i; k++) {
                            there &= row[k] != row[i];
                        }
                        if (!there || i > 0 && round[row[i]] < round[row[i - 1]]) {
                            return 1 + i;
                        }
                    }
                    return 0;
                }
                default: return byTastes(name, row, a);
            }
        }

        private long byTastes(String name, int[] row, int[] a) {
            one(a[1]);
            joke(a[2]);
            List<Integer> fitting = new ArrayList<>();
            for (int taste = 0; taste < 64; taste++) {
                State s = state.again();
                s.people.get(a[1])[2] = taste;
                boolean so = true;
                for (int number : row) {
                    s.tell(s.jokes.get(a[2]));
                    so &= number == -1 || number == s.paid[a[1]];
                }
                if (so) {
                    fitting.add(taste);
                }
            }
            refuse(NONE, name.equals("taste") && fitting.isEmpty());
            return name.equals("taste") ? fitting.get(0) : fitting.size();
        }

        private long sheetsAndSpots(String name, int[] a) {
            switch (name) {
                case "sheet":
                    range(a[0], 0, 3);
                    refuse(BEYOND, !Arrays.asList(0, 8, 16, 32).contains(a[1]));
                    refuse(SIZE, a[2] < 0);
                    refuse(BEYOND, a[2] > 40);
                    bits[a[0]] = a[1];
                    sheets[a[0]] = a[1] == 0 ? null : new int[a[2]];
                    return a[1] == 0 ? 0 : a[2];
                case "write": {
                    int[] row = sheet(a[0]);
                    range(a[1], 0, row.length - 1);
                    row[a[1]] = a[2] << 32 - bits[a[0]] >> 32 - bits[a[0]];
                    return 1;
                }
                case "copy": {
                    range(a[0], 0, 3);
                    range(a[2], 0, 3);
                    int[] from = sheet(a[0]);
                    int[] to = sheet(a[2]);
                    refuse(KIND, bits[a[0]] != bits[a[2]]);
                    refuse(BEYOND, a[1] < 0 || a[3] < 0 || a[4] < 0);
                    refuse(BEYOND, (long) a[1] + a[4] > from.length || (long) a[3] + a[4] > to.length);
                    int[] were = from.clone();
                    for (int i = 0; i < a[4]; i++) {
                        to[a[3] + i] = were[a[1] + i];
                    }
                    return a[4];
                }
                case "hold":
                    range(a[0], 0, 9);
                    range(a[1], -1, state.people.size() - 1);
                    state.spots[a[0]] = a[1];
                    return 1;
                default: {
                    range(a[0], 0, 9);
                    range(a[1], 0, 6);
                    refuse(MISSING, state.spots[a[0]] < 0);
                    int kind = state.people.get(state.spots[a[0]])[0];
                    refuse(KIND, Arrays.stream(SELF_AND_ABOVE[kind]).noneMatch(k -> k == a[1]));
                    return state.spots[a[0]];
                }
            }
        }

        private long rest(String name, int[] a) {
            switch (name) {
                case "feed":
                    range(a[1], 1, 4);
                    refuse(FULL, tape.length() + a[1] > 120);
                    for (int i = a[1] - 1; i >= 0; i--) {
                        tape += (char) (a[0] >> 8 * i & 255);
                    }
                    return tape.length();
                case "wipe": {
                    int before = tape.length();
                    tape = "";
                    return before;
                }
                case "text": return text();
                case "image":
                    kept = state.again();
                    return 1;
                case "undo":
                    refuse(NONE, kept == null);
                    state = kept.again();
                    return state.told;
                case "tear": {
                    int before = kept == null ? 0 : 1;
                    kept = null;
                    return before;
                }
                case "count": {
                    range(a[0], 0, 7);
                    int held = (int) Arrays.stream(state.spots).filter(p -> p >= 0).count();
                    int[] all = {state.told, state.people.size(), state.jokes.size(), state.treasury, state.sum(4), tape.length(), state.z, held};
                    return all[a[0]];
                }
                default:
                    range(a[0], -1, 6);
                    return findings.stream().filter(f -> a[0] == -1 || f == a[0]).count();
            }
        }

        // ---- texts: all tokens first, then a walk along them

        private List<String> tokens;
        private List<Integer> places;
        private int at;

        private long text() {
            tokens = new ArrayList<>();
            places = new ArrayList<>();
            Matcher matcher = Pattern.compile("[a-z]+|[0-9]+|;|[^ ]", Pattern.DOTALL).matcher(tape);
            while (matcher.find()) {
                tokens.add(matcher.group());
                places.add(matcher.start());
            }
            tokens.add("");
            places.add(tape.length());
            tape = "";
            at = 0;
            State before = state.again();
            int items = 0;
            boolean fine;
            do {
                fine = item();
                items++;
            } while (fine && take(";"));
            if (fine && tokens.get(at).isEmpty()) {
                return items;
            }
            state = before;
            return -1 - places.get(at);
        }

        private boolean take(String token) {
            if (!tokens.get(at).equals(token)) {
                return false;
            }
            at++;
            return true;
        }

        private int number(int least, int most) {
            String token = tokens.get(at);
            if (!token.matches("[0-9]+") || new BigInteger(token).compareTo(BigInteger.valueOf(most)) > 0
                    || new BigInteger(token).compareTo(BigInteger.valueOf(least)) < 0) {
                return -1;
            }
            at++;
            return Integer.parseInt(token);
        }

        private boolean item() {
            int kind = Arrays.asList(WORDS).indexOf(tokens.get(at));
            if (kind >= 0) {
                return state.people.size() < 8 && newOne(kind);
            }
            if (tokens.get(at).equals("joke")) {
                return state.jokes.size() < 8 && newJoke();
            }
            int what = Arrays.asList("rate", "reach").indexOf(tokens.get(at));
            if (what < 0) {
                return false;
            }
            at++;
            int v = number(0, what == 0 ? 20 : 15);
            if (v >= 0) {
                state.law[what] = v;
            }
            return v >= 0;
        }

        private boolean newOne(int kind) {
            at++;
            int[] p = {kind, 0, 1, 3, 100};
            String[] words = {"", "on", "taste", "mood", "purse"};
            int[] most = {0, 15, 63, 9, 9999};
            for (int what = 1; what < 5; what++) {
                if (take(words[what])) {
                    p[what] = number(0, most[what]);
                    if (p[what] < 0) {
                        return false;
                    }
                }
            }
            state.people.add(p);
            return true;
        }

        private boolean newJoke() {
            at++;
            int topics = number(1, 63);
            int fun = topics < 0 ? -1 : number(0, 9);
            if (fun < 0) {
                return false;
            }
            state.jokes.add(new int[] {topics, fun});
            return true;
        }
    }
}
