import java.util.ArrayList;
import java.util.Arrays;
import java.util.List;
import java.util.TreeSet;
import java.util.function.Supplier;
import java.util.function.ToLongFunction;

/**
 * Each call that is refused: its finding, that the finding alone is counted, and that nothing else has changed,
 * with the first numbers that are not allowed on both sides, and where two findings would do, the one that comes first.
 */
public final class RefusedTest {
    private static final int BEYOND = Edges.BEYOND;
    private static final int FULL = Edges.FULL;
    private static final int KIND = Edges.KIND;
    private static final int NONE = Edges.NONE;
    private static final int STATE = Edges.STATE;
    private static final int MISSING = Edges.MISSING;
    private static final int SIZE = Edges.SIZE;
    private static final int LEAST = Edges.LEAST;
    private static final int MOST = Edges.MOST;

    private static final Supplier<LaughTax> EMPTY = Rooms::empty;
    /** Five PEOPLE, three JOKES; SHEETS 0 (8 bits, five), 1 (16 bits, two), 2 (8 bits, three), and 3 is MISSING. */
    private static final Supplier<LaughTax> SOME = Rooms::some;
    /** Eight PEOPLE, eight JOKES, 120 bytes, four SHEETS of 40 (3 of 32 bits, the others of 8). */
    private static final Supplier<LaughTax> FILLED = Rooms::full;
    private static final Supplier<LaughTax> NO_PEOPLE = Rooms::withoutPeople;
    private static final Supplier<LaughTax> NO_JOKES = Rooms::withoutJokes;
    private static final Supplier<LaughTax> TOLD_OUT = () -> Rooms.told(99999);
    private static final int[] NO_PERSON_OF_SOME = {-1, 5, 8, LEAST, MOST};
    private static final int[] NO_JOKE_OF_SOME = {-1, 3, 8, LEAST, MOST};
    private static final int[] NO_SHEET = {-1, 4, LEAST, MOST};

    /** By promises: the findings that the document names there. */
    private static final String NAMED = "2 BEYOND FULL,3 BEYOND,4 BEYOND,5 BEYOND FULL,6 BEYOND,7 BEYOND,8 BEYOND,"
            + "9 BEYOND STATE,10 BEYOND STATE,11 BEYOND,12 BEYOND NONE,13 BEYOND,14 BEYOND,15 BEYOND,16 BEYOND,"
            + "17 BEYOND NONE,18 BEYOND NONE,19 BEYOND,20 NONE,22 BEYOND,23 BEYOND,24 BEYOND,25 BEYOND NONE,26 BEYOND,"
            + "27 BEYOND,28 BEYOND NONE,29 BEYOND NONE,30 BEYOND MISSING,31 BEYOND MISSING NONE,32 BEYOND MISSING,"
            + "33 BEYOND STATE,34 BEYOND NONE,36 BEYOND FULL,39 BEYOND,40 BEYOND MISSING KIND,41 BEYOND SIZE,"
            + "42 BEYOND MISSING,43 BEYOND MISSING KIND,44 BEYOND MISSING,45 BEYOND MISSING STATE,47 NONE,49 BEYOND,"
            + "50 BEYOND";
    private static final List<String> NAMES =
            Arrays.asList("BEYOND", "FULL", "KIND", "NONE", "STATE", "MISSING", "SIZE");

    private static int promise = 0;

    public static void main(String[] args) {
        promise = 2; person();
        promise = 3; of();
        promise = 4; change();
        promise = 5; joke();
        promise = 6; jokeOf();
        promise = 7; law();
        promise = 8; strength();
        promise = 9; tell();
        promise = 10; evening();
        promise = 11; now();
        promise = 12; relief();
        promise = 13; laugh();
        promise = 14; rounds();
        promise = 15; raised();
        promise = 16; ahead();
        promise = 17; stale();
        promise = 18; broke();
        promise = 19; caught();
        promise = 20; starter();
        promise = 22; away();
        promise = 23; seatFor();
        promise = 24; kindFor();
        promise = 25; reachFor();
        promise = 26; rateFor();
        promise = 27; best();
        promise = 28; quiet();
        promise = 29; safe();
        promise = 30; tastes();
        promise = 31; taste();
        promise = 32; which();
        promise = 33; shows();
        promise = 34; odds();
        promise = 36; feed();
        promise = 39; hold();
        promise = 40; as();
        promise = 41; sheet();
        promise = 42; write();
        promise = 43; copy();
        promise = 44; load();
        promise = 45; judge();
        promise = 47; undo();
        promise = 49; count();
        promise = 50; status();
        everyFinding();
        Edges.end();
    }

    private static void no(String call, Supplier<LaughTax> maker, ToLongFunction<LaughTax> act, int finding) {
        Edges.refused(promise, call, maker, act, finding);
    }

    /** A finding that the document names for an act has a test there, and no other has. */
    private static void everyFinding() {
        Edges.edge(0, "each finding that is named", () -> {
            List<String> tested = new ArrayList<>();
            for (int p : Edges.findings().keySet()) {
                TreeSet<Integer> ofOne = Edges.findings().get(p);
                StringBuilder row = new StringBuilder().append(p);
                Arrays.stream(NAMED.split(",")).filter(n -> n.startsWith(p + " ")).findFirst()
                        .ifPresent(n -> Arrays.stream(n.split(" ")).skip(1)
                                .filter(f -> ofOne.remove(BEYOND - NAMES.indexOf(f)))
                                .forEach(f -> row.append(' ').append(f)));
                tested.add(row + (ofOne.isEmpty() ? "" : " and others"));
            }
            Edges.due("findings by promises: " + tested, String.join(",", tested).equals(NAMED) ? 1 : 0, 1);
        });
    }

    // ---- people, jokes

    private static void person() {
        for (int kind : new int[] {-1, 7, LEAST, MOST}) {
            no("kind " + kind, SOME, x -> x.person(kind, 0), BEYOND);
        }
        for (int seat : new int[] {-1, 16, LEAST, MOST}) {
            no("seat " + seat, SOME, x -> x.person(0, seat), BEYOND);
        }
        no("a 9th", FILLED, x -> x.person(0, 0), FULL);
        no("a 9th of no kind", FILLED, x -> x.person(7, 0), BEYOND);
        no("a 9th on no seat", FILLED, x -> x.person(0, 16), BEYOND);
    }

    private static void of() {
        for (int person : NO_PERSON_OF_SOME) {
            no("person " + person, SOME, x -> x.of(person, 0), BEYOND);
        }
        for (int what : new int[] {-1, 8, LEAST, MOST}) {
            no("what " + what, SOME, x -> x.of(0, what), BEYOND);
        }
        no("a 9th", FILLED, x -> x.of(8, 0), BEYOND);
        no("nobody there", EMPTY, x -> x.of(0, 0), BEYOND);
    }

    private static void change() {
        for (int person : NO_PERSON_OF_SOME) {
            no("person " + person, SOME, x -> x.change(person, 1, 3), BEYOND);
        }
        for (int what : new int[] {-1, 5, 6, 7, LEAST, MOST}) {
            no("what " + what, SOME, x -> x.change(0, what, 0), BEYOND);
        }
        int[] first = {7, 16, 64, 10, 10000};
        for (int w = 0; w < 5; w++) {
            int what = w;
            for (int v : new int[] {-1, first[what], LEAST, MOST}) {
                no("what " + what + ", v " + v, SOME, x -> x.change(0, what, v), BEYOND);
            }
        }
        no("a 9th", FILLED, x -> x.change(8, 0, 0), BEYOND);
        no("nobody there", EMPTY, x -> x.change(0, 0, 0), BEYOND);
    }

    private static void joke() {
        for (int topics : new int[] {0, -1, 64, LEAST, MOST}) {
            no("topics " + topics, SOME, x -> x.joke(topics, 5), BEYOND);
        }
        for (int fun : new int[] {-1, 10, LEAST, MOST}) {
            no("fun " + fun, SOME, x -> x.joke(1, fun), BEYOND);
        }
        no("a 9th", FILLED, x -> x.joke(1, 0), FULL);
        no("a 9th of no topics", FILLED, x -> x.joke(0, 0), BEYOND);
        no("a 9th of too much fun", FILLED, x -> x.joke(1, 10), BEYOND);
    }

    private static void jokeOf() {
        for (int joke : NO_JOKE_OF_SOME) {
            no("joke " + joke, SOME, x -> x.jokeOf(joke, 0), BEYOND);
        }
        for (int what : new int[] {-1, 2, LEAST, MOST}) {
            no("what " + what, SOME, x -> x.jokeOf(0, what), BEYOND);
        }
        no("a 9th", FILLED, x -> x.jokeOf(8, 1), BEYOND);
        no("no jokes", EMPTY, x -> x.jokeOf(0, 0), BEYOND);
    }

    private static void law() {
        for (int what : new int[] {-1, 2, LEAST, MOST}) {
            no("what " + what, SOME, x -> x.law(what, 1), BEYOND);
        }
        for (int rate : new int[] {-1, 21, LEAST, MOST}) {
            no("rate " + rate, SOME, x -> x.law(0, rate), BEYOND);
        }
        for (int reach : new int[] {-1, 16, LEAST, MOST}) {
            no("reach " + reach, SOME, x -> x.law(1, reach), BEYOND);
        }
    }

    private static void strength() {
        for (int joke : NO_JOKE_OF_SOME) {
            no("joke " + joke, SOME, x -> x.strength(joke, 0, 0), BEYOND);
        }
        for (int person : NO_PERSON_OF_SOME) {
            no("person " + person, SOME, x -> x.strength(0, person, 1), BEYOND);
        }
        for (int what : new int[] {-1, 3, LEAST, MOST}) {
            no("what " + what, SOME, x -> x.strength(0, 0, what), BEYOND);
        }
        no("a 9th joke", FILLED, x -> x.strength(8, 0, 0), BEYOND);
        no("a 9th person", FILLED, x -> x.strength(0, 8, 0), BEYOND);
    }

    // ---- jokes told

    private static void tell() {
        for (int joke : NO_JOKE_OF_SOME) {
            no("joke " + joke, SOME, x -> x.tell(joke), BEYOND);
        }
        no("a 9th", FILLED, x -> x.tell(8), BEYOND);
        no("no jokes", EMPTY, x -> x.tell(0), BEYOND);
        no("TOLD is 99999", TOLD_OUT, x -> x.tell(0), STATE);
        no("TOLD is 99999, and no such joke", TOLD_OUT, x -> x.tell(1), BEYOND);
    }

    private static void evening() {
        for (int joke : NO_JOKE_OF_SOME) {
            no("joke " + joke, SOME, x -> x.evening(joke, 1), BEYOND);
        }
        for (int n : new int[] {0, -1, 61, LEAST, MOST}) {
            no("n " + n, SOME, x -> x.evening(0, n), BEYOND);
        }
        no("no jokes", EMPTY, x -> x.evening(0, 1), BEYOND);
        no("TOLD is 99999", TOLD_OUT, x -> x.evening(0, 1), STATE);
        no("TOLD would be 100000", () -> Rooms.told(99940), x -> x.evening(0, 60), STATE);
        no("TOLD is 99999, and no such joke", TOLD_OUT, x -> x.evening(1, 1), BEYOND);
        no("TOLD is 99999, and n 61", TOLD_OUT, x -> x.evening(0, 61), BEYOND);
    }

    private static void now() {
        for (int what : new int[] {-1, 6, LEAST, MOST}) {
            no("what " + what, SOME, x -> x.now(what), BEYOND);
        }
    }

    private static void relief() {
        for (int n : new int[] {-1, 10000, LEAST, MOST}) {
            no("n " + n, SOME, x -> x.relief(n), BEYOND);
            no("nobody, and n " + n, EMPTY, x -> x.relief(n), BEYOND);
        }
        no("nobody", NO_PEOPLE, x -> x.relief(0), NONE);
        no("nobody, and n 9999", NO_PEOPLE, x -> x.relief(9999), NONE);
        no("nothing at all", EMPTY, x -> x.relief(1), NONE);
    }

    // ---- what would be

    private static void laugh() {
        for (int joke : NO_JOKE_OF_SOME) {
            no("joke " + joke, SOME, x -> x.laugh(joke, 0), BEYOND);
        }
        for (int what : new int[] {-1, 2, LEAST, MOST}) {
            no("what " + what, SOME, x -> x.laugh(0, what), BEYOND);
        }
        no("no jokes", EMPTY, x -> x.laugh(0, 1), BEYOND);
    }

    private static void rounds() {
        for (int joke : NO_JOKE_OF_SOME) {
            no("joke " + joke, SOME, x -> x.rounds(joke), BEYOND);
        }
        no("no jokes", EMPTY, x -> x.rounds(0), BEYOND);
    }

    private static void raised() {
        for (int joke : NO_JOKE_OF_SOME) {
            no("joke " + joke, SOME, x -> x.raised(joke), BEYOND);
        }
        no("no jokes", EMPTY, x -> x.raised(0), BEYOND);
    }

    private static void ahead() {
        for (int joke : NO_JOKE_OF_SOME) {
            no("joke " + joke, SOME, x -> x.ahead(joke, 1), BEYOND);
        }
        for (int n : new int[] {-1, 61, LEAST, MOST}) {
            no("n " + n, SOME, x -> x.ahead(0, n), BEYOND);
        }
        no("no jokes", EMPTY, x -> x.ahead(0, 0), BEYOND);
    }

    private static void stale() {
        for (int joke : NO_JOKE_OF_SOME) {
            no("joke " + joke, SOME, x -> x.stale(joke), BEYOND);
        }
        no("no jokes", EMPTY, x -> x.stale(0), BEYOND);
        no("somebody laughs on", SOME, x -> x.stale(0), NONE);
    }

    private static void broke() {
        for (int joke : NO_JOKE_OF_SOME) {
            no("joke " + joke, SOME, x -> x.broke(joke, 0), BEYOND);
        }
        for (int person : NO_PERSON_OF_SOME) {
            no("person " + person, SOME, x -> x.broke(0, person), BEYOND);
        }
        no("a fool never pays", SOME, x -> x.broke(0, 4), NONE);
    }

    // ---- catching

    private static void caught() {
        for (int people : new int[] {-1, 32, 33, 256, LEAST, MOST}) {
            no("people " + people, SOME, x -> x.caught(people), BEYOND);
        }
        no("a 9th", FILLED, x -> x.caught(256), BEYOND);
        no("nobody there", EMPTY, x -> x.caught(1), BEYOND);
    }

    private static void starter() {
        no("nobody", NO_PEOPLE, LaughTax::starter, NONE);
        no("nothing at all", EMPTY, LaughTax::starter, NONE);
    }

    private static void away() {
        for (int joke : NO_JOKE_OF_SOME) {
            no("joke " + joke, SOME, x -> x.away(joke, 0), BEYOND);
        }
        for (int k : new int[] {-1, 9, LEAST, MOST}) {
            no("k " + k, SOME, x -> x.away(0, k), BEYOND);
        }
    }

    private static void seatFor() {
        for (int person : NO_PERSON_OF_SOME) {
            no("person " + person, SOME, x -> x.seatFor(person, 0), BEYOND);
        }
        for (int joke : NO_JOKE_OF_SOME) {
            no("joke " + joke, SOME, x -> x.seatFor(0, joke), BEYOND);
        }
        no("person 3 of joke 4, not joke 3 of person 4", SOME, x -> x.seatFor(3, 4), BEYOND);
    }

    private static void kindFor() {
        for (int person : NO_PERSON_OF_SOME) {
            no("person " + person, SOME, x -> x.kindFor(person, 0), BEYOND);
        }
        for (int joke : NO_JOKE_OF_SOME) {
            no("joke " + joke, SOME, x -> x.kindFor(0, joke), BEYOND);
        }
    }

    private static void reachFor() {
        for (int joke : NO_JOKE_OF_SOME) {
            no("joke " + joke, SOME, x -> x.reachFor(joke), BEYOND);
        }
        no("a fool never laughs", SOME, x -> x.reachFor(0), NONE);
    }

    // ---- laws

    private static void rateFor() {
        for (int joke : NO_JOKE_OF_SOME) {
            no("joke " + joke, SOME, x -> x.rateFor(joke, 1), BEYOND);
        }
        for (int n : new int[] {0, -1, 21, LEAST, MOST}) {
            no("n " + n, SOME, x -> x.rateFor(0, n), BEYOND);
        }
    }

    private static void best() {
        for (int fun : new int[] {-1, 10, LEAST, MOST}) {
            no("fun " + fun, SOME, x -> x.best(fun), BEYOND);
        }
    }

    private static void quiet() {
        for (int fun : new int[] {-1, 10, LEAST, MOST}) {
            no("fun " + fun, SOME, x -> x.quiet(fun), BEYOND);
        }
        no("nobody", NO_PEOPLE, x -> x.quiet(9), NONE);
        no("nobody laughs at any", NO_JOKES, x -> x.quiet(0), NONE);
    }

    private static void safe() {
        for (int topics : new int[] {0, -1, 64, LEAST, MOST}) {
            no("topics " + topics, SOME, x -> x.safe(topics), BEYOND);
        }
        no("somebody laughs at all", SOME, x -> x.safe(32), NONE);
    }

    // ---- what was paid

    private static void tastes() {
        for (int s : NO_SHEET) {
            no("sheet " + s, SOME, x -> x.tastes(s, 0, 0), BEYOND);
        }
        no("missing", SOME, x -> x.tastes(3, 0, 0), MISSING);
        no("missing, and no such one", SOME, x -> x.tastes(3, 5, 0), MISSING);
        no("missing, and no such joke", SOME, x -> x.tastes(3, 0, 3), MISSING);
        for (int person : NO_PERSON_OF_SOME) {
            no("person " + person, SOME, x -> x.tastes(0, person, 0), BEYOND);
        }
        for (int joke : NO_JOKE_OF_SOME) {
            no("joke " + joke, SOME, x -> x.tastes(0, 0, joke), BEYOND);
        }
    }

    private static void taste() {
        for (int s : NO_SHEET) {
            no("sheet " + s, SOME, x -> x.taste(s, 0, 0), BEYOND);
        }
        no("missing", SOME, x -> x.taste(3, 0, 0), MISSING);
        no("missing, and no such one", SOME, x -> x.taste(3, 5, 0), MISSING);
        no("missing, and no such joke", SOME, x -> x.taste(3, 0, 3), MISSING);
        for (int person : NO_PERSON_OF_SOME) {
            no("person " + person, SOME, x -> x.taste(0, person, 0), BEYOND);
        }
        for (int joke : NO_JOKE_OF_SOME) {
            no("joke " + joke, SOME, x -> x.taste(0, 0, joke), BEYOND);
        }
        no("with none", SOME, x -> x.taste(0, 4, 0), NONE);
    }

    private static void which() {
        for (int s : NO_SHEET) {
            no("sheet " + s, SOME, x -> x.which(s), BEYOND);
        }
        no("missing", SOME, x -> x.which(3), MISSING);
    }

    // ---- by draws

    private static void shows() {
        for (int n : new int[] {0, -1, 21, LEAST, MOST}) {
            no("n " + n, SOME, x -> x.shows(n), BEYOND);
            no("no jokes, and n " + n, NO_JOKES, x -> x.shows(n), BEYOND);
        }
        no("no jokes", NO_JOKES, x -> x.shows(1), STATE);
        no("no jokes, and n 20", NO_JOKES, x -> x.shows(20), STATE);
        no("TOLD is 99999", TOLD_OUT, x -> x.shows(1), STATE);
        no("TOLD would be 100000", () -> Rooms.told(99980), x -> x.shows(20), STATE);
        no("TOLD is 99999, and n 21", TOLD_OUT, x -> x.shows(21), BEYOND);
    }

    private static void odds() {
        for (int n : new int[] {-1, 15, LEAST, MOST}) {
            no("n " + n, SOME, x -> x.odds(n, 0), BEYOND);
            no("no jokes, and n " + n, NO_JOKES, x -> x.odds(n, 1), BEYOND);
        }
        for (int what : new int[] {-1, 2, LEAST, MOST}) {
            no("what " + what, SOME, x -> x.odds(0, what), BEYOND);
            no("no jokes, and what " + what, NO_JOKES, x -> x.odds(0, what), BEYOND);
        }
        no("no jokes", NO_JOKES, x -> x.odds(0, 0), NONE);
        no("no jokes, below the line", NO_JOKES, x -> x.odds(14, 1), NONE);
    }

    // ---- texts

    private static void feed() {
        for (int n : new int[] {0, -1, 5, LEAST, MOST}) {
            no("n " + n, SOME, x -> x.feed(0x20202020, n), BEYOND);
            no("full, and n " + n, FILLED, x -> x.feed(0x20202020, n), BEYOND);
        }
        for (int n = 1; n <= 4; n++) {
            int bytes = n;
            no("full, " + n + " more", FILLED, x -> x.feed(0x20202020, bytes), FULL);
            no(n + " more than fit by one", () -> lessBytes(bytes - 1), x -> x.feed(0x3b3b3b3b, bytes), FULL);
        }
    }

    /** THE TAPE could take so many more. */
    private static LaughTax lessBytes(int more) {
        LaughTax x = new LaughTax();
        for (int i = 0; i < 120 - more; i++) {
            x.feed(' ', 1);
        }
        return x;
    }

    // ---- spots, sheets

    private static void hold() {
        for (int spot : new int[] {-1, 10, LEAST, MOST}) {
            no("spot " + spot, SOME, x -> x.hold(spot, 0), BEYOND);
            no("nothing on spot " + spot, SOME, x -> x.hold(spot, -1), BEYOND);
        }
        for (int person : new int[] {-2, 5, 8, LEAST, MOST}) {
            no("person " + person, SOME, x -> x.hold(0, person), BEYOND);
        }
        no("nobody there", EMPTY, x -> x.hold(0, 0), BEYOND);
    }

    private static void as() {
        for (int spot : new int[] {-1, 10, LEAST, MOST}) {
            no("spot " + spot, SOME, x -> x.as(spot, 0), BEYOND);
        }
        for (int kind : new int[] {-1, 7, LEAST, MOST}) {
            no("kind " + kind, SOME, x -> x.as(0, kind), BEYOND);
            no("it holds nothing, and kind " + kind, SOME, x -> x.as(1, kind), BEYOND);
        }
        no("it holds nothing", SOME, x -> x.as(1, 0), MISSING);
        no("it holds nothing of any kind", SOME, x -> x.as(1, 6), MISSING);
        // SPOT 0 holds an INSPECTOR
        for (int kind = 2; kind <= 5; kind++) {
            int other = kind;
            no("an inspector as kind " + kind, SOME, x -> x.as(0, other), KIND);
        }
    }

    private static void sheet() {
        for (int s : NO_SHEET) {
            no("sheet " + s, SOME, x -> x.sheet(s, 8, 3), BEYOND);
            no("sheet " + s + ", and n -1", SOME, x -> x.sheet(s, 8, -1), BEYOND);
        }
        for (int bits : new int[] {-1, 1, 7, 9, 15, 17, 24, 31, 33, 64, -8, -16, -32, LEAST, MOST}) {
            no("bits " + bits, SOME, x -> x.sheet(0, bits, 3), BEYOND);
            no("bits " + bits + ", and n -1", SOME, x -> x.sheet(0, bits, -1), BEYOND);
        }
        for (int bits : new int[] {0, 8, 16, 32}) {
            for (int n : new int[] {-1, LEAST}) {
                no("bits " + bits + ", n " + n, SOME, x -> x.sheet(0, bits, n), SIZE);
            }
            for (int n : new int[] {41, MOST}) {
                no("bits " + bits + ", n " + n, SOME, x -> x.sheet(0, bits, n), BEYOND);
            }
        }
    }

    private static void write() {
        for (int s : NO_SHEET) {
            no("sheet " + s, SOME, x -> x.write(s, 0, 9), BEYOND);
        }
        no("missing", SOME, x -> x.write(3, 0, 9), MISSING);
        for (int i : new int[] {-1, 40, LEAST, MOST}) {
            no("missing, and number " + i, SOME, x -> x.write(3, i, 9), MISSING);
            no("number " + i + " of 40", FILLED, x -> x.write(0, i, 9), BEYOND);
        }
        for (int i : new int[] {-1, 5, 39, 40, LEAST, MOST}) {
            no("number " + i + " of five", SOME, x -> x.write(0, i, 9), BEYOND);
        }
        no("number 0 of none", () -> emptySheets(8, 8), x -> x.write(0, 0, 9), BEYOND);
    }

    private static LaughTax emptySheets(int bits, int others) {
        LaughTax x = new LaughTax();
        x.sheet(0, bits, 0);
        x.sheet(1, others, 0);
        return x;
    }

    private static void copy() {
        for (int s : NO_SHEET) {
            no("from sheet " + s, SOME, x -> x.copy(s, 0, 0, 0, 1), BEYOND);
            no("to sheet " + s, SOME, x -> x.copy(0, 0, s, 0, 1), BEYOND);
            no("from a missing one to sheet " + s, SOME, x -> x.copy(3, 0, s, 0, 1), BEYOND);
            no("from sheet " + s + " to a missing one", SOME, x -> x.copy(s, 0, 3, 0, 1), BEYOND);
        }
        no("from a missing one", SOME, x -> x.copy(3, 0, 0, 0, 1), MISSING);
        no("to a missing one", SOME, x -> x.copy(0, 0, 3, 0, 1), MISSING);
        no("from a missing one to itself", SOME, x -> x.copy(3, 0, 3, 0, 0), MISSING);
        no("to a missing one, and n -1", SOME, x -> x.copy(0, 0, 3, 0, -1), MISSING);
        for (int[] bits : new int[][] {{8, 16}, {16, 8}, {8, 32}, {32, 8}, {16, 32}, {32, 16}}) {
            no("bits " + bits[0] + " and " + bits[1], () -> emptySheets(bits[0], bits[1]),
                    x -> x.copy(0, 0, 1, 0, 0), KIND);
        }
        no("other bits, and from -1", SOME, x -> x.copy(0, -1, 1, 0, 1), KIND);
        no("other bits, and too many", SOME, x -> x.copy(1, 0, 0, 0, 3), KIND);
        copyTooFar();
    }

    private static void copyTooFar() {
        // five numbers come from SHEET 0, three are on SHEET 2
        int[][] rows = {{-1, 0, 1}, {0, -1, 1}, {0, 0, -1}, {0, 0, 4}, {0, 1, 3}, {0, 3, 1}, {3, 0, 3}, {4, 0, 2},
            {5, 0, 1}, {6, 0, 0}, {0, 4, 0}, {-1, 0, 0}, {0, -1, 0}, {LEAST, 0, 1}, {MOST, 0, 1}, {0, LEAST, 1},
            {0, MOST, 1}, {0, 0, LEAST}, {0, 0, MOST}, {1, 1, MOST}, {MOST, MOST, MOST}, {LEAST, LEAST, LEAST},
            {MOST, 0, 0}, {0, MOST, 0}};
        for (int[] r : rows) {
            no("from " + r[0] + ", to " + r[1] + ", n " + r[2], SOME, x -> x.copy(0, r[0], 2, r[1], r[2]), BEYOND);
        }
        no("41 of 40", FILLED, x -> x.copy(0, 0, 1, 0, 41), BEYOND);
        no("40 of 40 from 1 on", FILLED, x -> x.copy(0, 1, 1, 0, 40), BEYOND);
        no("40 of 40 to 1 on", FILLED, x -> x.copy(0, 0, 1, 1, 40), BEYOND);
        no("one of none", () -> emptySheets(8, 8), x -> x.copy(0, 0, 1, 0, 1), BEYOND);
    }

    private static void load() {
        for (int s : NO_SHEET) {
            no("sheet " + s, SOME, x -> x.load(s), BEYOND);
        }
        no("missing", SOME, x -> x.load(3), MISSING);
    }

    private static void judge() {
        for (int s : NO_SHEET) {
            no("sheet " + s, SOME, x -> x.judge(s), BEYOND);
            no("no joke, and sheet " + s, EMPTY, x -> x.judge(s), BEYOND);
        }
        no("missing", SOME, x -> x.judge(3), MISSING);
        no("no joke, and missing", EMPTY, x -> x.judge(0), MISSING);
        no("no joke", NO_JOKES, x -> x.judge(0), STATE);
        no("no joke, and no numbers", () -> emptySheets(8, 8), x -> x.judge(0), STATE);
    }

    // ---- images

    private static void undo() {
        no("nothing is kept", EMPTY, LaughTax::undo, NONE);
        no("nothing is kept any more", RefusedTest::torn, LaughTax::undo, NONE);
    }

    private static LaughTax torn() {
        LaughTax x = Rooms.some();
        x.tear();
        return x;
    }

    private static void count() {
        for (int what : new int[] {-1, 8, LEAST, MOST}) {
            no("what " + what, SOME, x -> x.count(what), BEYOND);
        }
    }

    private static void status() {
        for (int which : new int[] {-2, 7, LEAST, MOST}) {
            no("which " + which, SOME, x -> x.status(which), BEYOND);
            no("which " + which + " of none", EMPTY, x -> x.status(which), BEYOND);
        }
    }
}
