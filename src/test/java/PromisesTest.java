/** One method for each of the document's promises 1 to 50: ordinary inputs, edges, wrong inputs. */
public final class PromisesTest {
    private static final int BEYOND = -1000001;
    private static final int FULL = -1000002;
    private static final int KIND = -1000003;
    private static final int NONE = -1000004;
    private static final int STATE = -1000005;
    private static final int MISSING = -1000006;
    private static final int SIZE = -1000007;
    private static final int LEAST = Integer.MIN_VALUE;
    private static final int MOST = Integer.MAX_VALUE;

    private static int wrong = 0;
    private static int promise = 0;

    private static void due(String what, long got, long want) {
        if (got != want) {
            wrong++;
            System.out.println("promise " + promise + ": " + what + " answered " + got + ", due is " + want);
        }
    }

    public static void main(String[] args) {
        promise = 1; newObject();
        promise = 2; person();
        promise = 3; of();
        promise = 4; change();
        promise = 5; joke();
        promise = 6; jokeOf();
        promise = 7; law();
        promise = 8; strength();
        promise = 9; tell();
        promise = 10; evening();
        promise = 11; now();
        promise = 12; relief();
        promise = 13; laugh();
        promise = 14; rounds();
        promise = 15; raised();
        promise = 16; ahead();
        promise = 17; stale();
        promise = 18; broke();
        promise = 19; caught();
        promise = 20; starter();
        promise = 21; fewest();
        promise = 22; away();
        promise = 23; seatFor();
        promise = 24; kindFor();
        promise = 25; reachFor();
        promise = 26; rateFor();
        promise = 27; best();
        promise = 28; quiet();
        promise = 29; safe();
        promise = 30; tastes();
        promise = 31; taste();
        promise = 32; which();
        promise = 33; shows();
        promise = 34; odds();
        promise = 35; seed();
        promise = 36; feed();
        promise = 37; wipe();
        promise = 38; text();
        promise = 39; hold();
        promise = 40; as();
        promise = 41; sheet();
        promise = 42; write();
        promise = 43; copy();
        promise = 44; load();
        promise = 45; judge();
        promise = 46; image();
        promise = 47; undo();
        promise = 48; tear();
        promise = 49; count();
        promise = 50; status();
        System.out.println(wrong == 0 ? "all promises are kept" : wrong + " answers are not as due");
        if (wrong != 0) {
            System.exit(1);
        }
    }

    // ---- people, jokes

    private static void newObject() {
        LaughTax x = new LaughTax();
        for (int what = 0; what <= 5; what++) {
            due("now " + what, x.now(what), what == 4 ? 1 : what == 5 ? 2 : 0);
        }
        for (int what = 0; what <= 7; what++) {
            due("count " + what, x.count(what), what == 6 ? 1 : 0);
        }
        due("findings", x.status(-1), 0);
        for (int spot = 0; spot <= 9; spot++) {
            due("spot", x.as(spot, 0), MISSING);
        }
        for (int s = 0; s <= 3; s++) {
            due("sheet", x.load(s), MISSING);
        }
        due("kept", x.undo(), NONE);
        due("tape", x.wipe(), 0);
        due("jokes", x.jokeOf(0, 0), BEYOND);
    }

    private static void person() {
        LaughTax x = new LaughTax();
        due("kind -1", x.person(-1, 0), BEYOND);
        due("kind 7", x.person(7, 0), BEYOND);
        due("seat -1", x.person(0, -1), BEYOND);
        due("seat 16", x.person(0, 16), BEYOND);
        due("far off", x.person(LEAST, MOST), BEYOND);
        for (int i = 0; i < 8; i++) {
            due("number", x.person(i % 7, 15 - i), i);
            due("kind", x.of(i, 0), i % 7);
            due("seat", x.of(i, 1), 15 - i);
            due("taste", x.of(i, 2), 1);
            due("mood", x.of(i, 3), 3);
            due("purse", x.of(i, 4), 100);
        }
        due("a 9th", x.person(0, 0), FULL);
        due("beyond ahead of full", x.person(0, 16), BEYOND);
        due("people", x.count(1), 8);
    }

    private static void of() {
        LaughTax x = Rooms.room("hearer;straight;giggler;aunt;fool;child;inspector;hearer on 4");
        int[] bounds = {8, 18, 4, 3, 93, 5, 22, 8};
        int[] numbers = {2, 3, 1, 1, 9, 2, 6, 2};
        for (int p = 0; p < 8; p++) {
            due("bound of " + p, x.of(p, 5), bounds[p]);
            due("number of " + p, x.of(p, 6), numbers[p]);
            due("near " + p, x.of(p, 7), p == 7 ? 0 : 6);
        }
        x.change(7, 1, 2);
        due("near at reach", x.of(7, 7), 7);
        x.change(7, 1, 3);
        due("near beyond reach", x.of(7, 7), 0);
        int[][] purses = {{0, 8}, {9, 8}, {10, 9}, {199, 27}, {200, 28}, {210, 28}, {9999, 28}};
        for (int[] row : purses) {
            x.change(1, 4, row[0]);
            x.change(6, 4, row[0]);
            due("straight with purse " + row[0], x.of(1, 5), row[1]);
            due("inspector with purse " + row[0], x.of(6, 5), row[1] + 4);
        }
        for (int mood = 0; mood <= 9; mood++) {
            x.change(5, 3, mood);
            due("child with mood " + mood, x.of(5, 6), mood >= 5 ? 1 : 2);
        }
        due("nobody", x.of(8, 0), BEYOND);
        due("below", x.of(-1, 0), BEYOND);
        due("what 8", x.of(0, 8), BEYOND);
        due("what -1", x.of(0, -1), BEYOND);
        due("far off", x.of(MOST, LEAST), BEYOND);
    }

    private static void change() {
        LaughTax x = Rooms.room("hearer on 5;hearer on 6");
        int[] most = {6, 15, 63, 9, 9999};
        int[] first = {0, 5, 1, 3, 100};
        for (int what = 0; what < 5; what++) {
            due("above", x.change(0, what, most[what] + 1), BEYOND);
            due("below", x.change(0, what, -1), BEYOND);
            due("unchanged", x.of(0, what), first[what]);
            due("to most", x.change(0, what, most[what]), first[what]);
            due("is most", x.of(0, what), most[what]);
            due("to 0", x.change(0, what, 0), most[what]);
            due("is 0", x.of(0, what), 0);
            due("of another", x.of(1, what), what == 1 ? 6 : first[what]);
        }
        due("near is new", x.of(1, 7), 0);
        due("what 5", x.change(0, 5, 1), BEYOND);
        due("what -1", x.change(0, -1, 1), BEYOND);
        due("nobody", x.change(2, 0, 1), BEYOND);
        due("below nobody", x.change(-1, 0, 1), BEYOND);
        due("far off", x.change(LEAST, MOST, LEAST), BEYOND);
    }

    private static void joke() {
        LaughTax x = new LaughTax();
        due("no topics", x.joke(0, 5), BEYOND);
        due("topics -1", x.joke(-1, 5), BEYOND);
        due("topics 64", x.joke(64, 5), BEYOND);
        due("fun -1", x.joke(1, -1), BEYOND);
        due("fun 10", x.joke(1, 10), BEYOND);
        for (int i = 0; i < 8; i++) {
            due("number", x.joke(63 - i, i), i);
        }
        due("a 9th", x.joke(1, 1), FULL);
        due("beyond ahead of full", x.joke(0, 1), BEYOND);
        due("jokes", x.count(2), 8);
    }

    private static void jokeOf() {
        LaughTax x = Rooms.room("joke 63 9;joke 1 0");
        due("topics", x.jokeOf(0, 0), 63);
        due("fun", x.jokeOf(0, 1), 9);
        due("topics", x.jokeOf(1, 0), 1);
        due("fun", x.jokeOf(1, 1), 0);
        due("what 2", x.jokeOf(0, 2), BEYOND);
        due("what -1", x.jokeOf(0, -1), BEYOND);
        due("no such", x.jokeOf(2, 0), BEYOND);
        due("below", x.jokeOf(-1, 0), BEYOND);
        due("far off", x.jokeOf(LEAST, MOST), BEYOND);
    }

    private static void law() {
        LaughTax x = Rooms.room("hearer;hearer on 3");
        due("rate", x.law(0, 20), 1);
        due("rate back", x.law(0, 0), 20);
        due("rate is", x.now(4), 0);
        due("reach", x.law(1, 3), 2);
        due("near is new", x.of(0, 7), 1);
        due("reach 15", x.law(1, 15), 3);
        due("reach 0", x.law(1, 0), 15);
        due("near with 0", x.of(0, 7), 0);
        due("reach is", x.now(5), 0);
        due("rate 21", x.law(0, 21), BEYOND);
        due("rate -1", x.law(0, -1), BEYOND);
        due("reach 16", x.law(1, 16), BEYOND);
        due("reach -1", x.law(1, -1), BEYOND);
        due("what 2", x.law(2, 0), BEYOND);
        due("what -1", x.law(-1, 0), BEYOND);
    }

    private static void strength() {
        LaughTax x = Rooms.room("hearer taste 7 mood 2;straight taste 7;giggler taste 7;aunt taste 7;fool taste 7;"
                + "child taste 7;joke 11 5;joke 63 9;joke 8 9");
        x.person(6, 0);
        x.change(6, 2, 7);
        due("two topics", x.strength(0, 0, 0), 12);
        due("three topics", x.strength(1, 0, 0), 29);
        due("no topic", x.strength(2, 0, 0), 2);
        // joke 0: STRENGTH 12 for the hearer (mood 2), 13 for the others (mood 3)
        int[] seconds = {12, 7, 26, 31, 0, 13, 1};
        for (int p = 0; p < 7; p++) {
            due("seconds of " + p, x.strength(0, p, 1), seconds[p]);
            due("due of " + p, x.strength(0, p, 2), seconds[p] * 6 / 10);
        }
        x.law(0, 7);
        due("due with rate 7", x.strength(0, 0, 2), 12 * 7 * 6 / 10);
        x.change(0, 4, 0);
        due("due without purse", x.strength(0, 0, 2), 12 * 7 * 6 / 10);
        x.change(0, 1, 9);
        due("due alone", x.strength(0, 0, 2), 0);
        x.change(0, 3, 0);
        due("strength 0", x.strength(2, 0, 0), 0);
        due("seconds 1 at least", x.strength(2, 0, 1), 1);
        for (int p = 0; p < 7; p++) {
            x.change(p, 2, 63);
        }
        int[] longest = {30, 16, 60, 65, 0, 30, 1};
        for (int p = 0; p < 7; p++) {
            due("longest of " + p, x.strength(1, p, 1), longest[p]);
        }
        due("what 3", x.strength(0, 0, 3), BEYOND);
        due("what -1", x.strength(0, 0, -1), BEYOND);
        due("no such joke", x.strength(3, 0, 0), BEYOND);
        due("joke below", x.strength(-1, 0, 0), BEYOND);
        due("nobody", x.strength(0, 7, 0), BEYOND);
        due("person below", x.strength(0, -1, 0), BEYOND);
    }

    // ---- jokes told

    private static void tell() {
        LaughTax x = Rooms.room("hearer taste 2 mood 9;giggler on 1 mood 0 purse 1;hearer on 9 mood 0;joke 2 9;rate 10");
        due("who", x.tell(0), 3);
        due("told", x.now(0), 1);
        // 18 seconds * 10 * 1 / 10; the giggler owes 2, and has 1
        due("purse of 0", x.of(0, 4), 82);
        due("purse of 1", x.of(1, 4), 0);
        due("purse of 2", x.of(2, 4), 100);
        due("treasury", x.now(1), 19);
        due("mood 9 at most", x.of(0, 3), 9);
        due("mood one more", x.of(1, 3), 1);
        due("mood 0 at least", x.of(2, 3), 0);
        x.change(2, 3, 5);
        x.tell(0);
        due("mood one less", x.of(2, 3), 4);
        due("no such joke", x.tell(1), BEYOND);
        due("below", x.tell(-1), BEYOND);
        due("told still", x.now(0), 2);

        LaughTax full = Rooms.fullTreasury();
        due("treasury full", full.now(1), 999999);
        due("all laugh", full.tell(0), 255);
        due("treasury full still", full.now(1), 999999);
        int before = full.now(2);
        due("none can be taken", full.tell(0), 255);
        due("purses as they were", full.now(2), before);

        // what a full treasury takes comes by numbers
        LaughTax by = Rooms.fullTreasury();
        for (int p = 0; p < 8; p++) {
            by.change(p, 4, p == 7 ? 0 : 9999);
        }
        due("relief of 1000", by.relief(1000), 1000);
        due("by numbers", by.tell(0), 255);
        due("first pays all", by.of(0, 4), 9999 - 910);
        due("second pays the rest", by.of(1, 4), 9999 - 90);
        due("third pays nothing", by.of(2, 4), 9999);
    }

    private static void evening() {
        LaughTax x = Rooms.room("hearer taste 2 mood 9;giggler on 1 mood 0;joke 2 1;rate 10");
        LaughTax y = Rooms.room("hearer taste 2 mood 9;giggler on 1 mood 0;joke 2 1;rate 10");
        for (int i = 0; i < 5; i++) {
            y.tell(0);
        }
        due("as five tellings", x.evening(0, 5), y.now(1));
        due("purses", x.now(2), y.now(2));
        due("moods", x.now(3), y.now(3));
        due("told", x.now(0), 5);
        due("n 0", x.evening(0, 0), BEYOND);
        due("n 61", x.evening(0, 61), BEYOND);
        due("n -1", x.evening(0, -1), BEYOND);
        due("no such joke", x.evening(1, 1), BEYOND);
        due("below", x.evening(-1, 1), BEYOND);
        due("n 60", x.evening(0, 60), 200);
        due("n 1", x.evening(0, 1), 200);
        due("told", x.now(0), 66);

        // 99999 is beyond 512 calls, so nothing is promised there; the act refuses it all the same
        LaughTax far = Rooms.room("joke 1 1");
        for (int i = 0; i < 1666; i++) {
            far.evening(0, 60);
        }
        due("above 99999", far.evening(0, 40), STATE);
        due("below 99999", far.evening(0, 20), 0);
        due("shows above 99999", far.shows(20), STATE);
        far.image();
        due("evening up to 99999", far.evening(0, 19), 0);
        due("back to 99980", far.undo(), 99980);
        due("shows up to 99999", far.shows(19), 0);
        due("back again", far.undo(), 99980);
        due("up to 99998", far.evening(0, 18), 0);
        due("tell up to 99999", far.tell(0), 0);
        due("told", far.now(0), 99999);
        due("one more", far.tell(0), STATE);
        due("told still", far.now(0), 99999);
    }

    private static void now() {
        LaughTax x = Rooms.room("hearer taste 2 mood 9 purse 50;giggler on 1 mood 0 purse 7;joke 2 9;rate 10;reach 4");
        x.tell(0);
        int[] want = {1, 20, 37, 10, 10, 4};
        for (int what = 0; what < 6; what++) {
            due("what " + what, x.now(what), want[what]);
        }
        due("what 6", x.now(6), BEYOND);
        due("what -1", x.now(-1), BEYOND);
    }

    private static void relief() {
        LaughTax x = new LaughTax();
        due("n -1", x.relief(-1), BEYOND);
        due("n 10000", x.relief(10000), BEYOND);
        due("nobody", x.relief(0), NONE);
        x = Rooms.room("aunt taste 63 purse 95;hearer on 1 purse 0;hearer on 1 purse 3;joke 63 9;rate 20");
        x.tell(0);
        due("raised", x.now(1), 98);
        due("purses", x.now(2), 0);
        x.change(2, 4, 2);
        due("0 units", x.relief(0), 0);
        due("4 units", x.relief(4), 4);
        due("to the least number first", x.of(0, 4), 2);
        due("to the next", x.of(1, 4), 2);
        due("not yet", x.of(2, 4), 2);
        due("2 more", x.relief(2), 2);
        due("evened", x.of(0, 4) * 100 + x.of(1, 4) * 10 + x.of(2, 4), 332);
        due("treasury", x.now(1), 92);
        due("as many as it has", x.relief(9999), 92);
        due("all of it", x.now(1), 0);
        due("no more", x.relief(9), 0);
        due("shared", x.of(0, 4) * 10000 + x.of(1, 4) * 100 + x.of(2, 4), 343333);

        LaughTax full = Rooms.fullTreasury();
        for (int p = 0; p < 8; p++) {
            full.change(p, 4, 9998);
        }
        due("9999 at most", full.relief(9999), 8);
        due("treasury less 8", full.now(1), 999991);
        due("none fits", full.relief(1), 0);
    }

    // ---- what would be

    private static void laugh() {
        LaughTax x = Rooms.chain();
        due("by itself", x.laugh(0, 0), 1);
        due("all", x.laugh(0, 1), 15);
        due("nothing changes", x.now(0) + x.now(1), 0);
        x.law(1, 1);
        due("too far", x.laugh(0, 1), 1);
        due("what 2", x.laugh(0, 2), BEYOND);
        due("what -1", x.laugh(0, -1), BEYOND);
        due("no such", x.laugh(1, 0), BEYOND);
        due("below", x.laugh(-1, 0), BEYOND);
        // BOUNDS are met at their number, and not one below
        LaughTax y = Rooms.room("hearer mood 8;hearer mood 7;child mood 5;child mood 4;aunt mood 3;aunt mood 2;joke 2 0;reach 0");
        y.person(2, 9);
        y.change(6, 3, 4);
        y.person(2, 12);
        y.change(7, 3, 3);
        due("at the bound", y.laugh(0, 0), 1 + 4 + 16 + 64);
        // two near let hearers laugh, one doesn't; three let the straight one
        LaughTax z = Rooms.room("hearer taste 2;hearer mood 0;hearer taste 2 mood 0;straight mood 0;fool;inspector mood 0;joke 2 8");
        due("two", z.laugh(0, 0), 5);
        due("then the third, then the straight one", z.laugh(0, 1), 15);
        z.change(2, 2, 1);
        due("one is not enough", z.laugh(0, 1), 1);
        LaughTax six = Rooms.room("inspector mood 0;giggler;giggler;giggler;giggler;giggler;giggler;joke 1 9");
        due("six for an inspector", six.laugh(0, 1), 127);
        six.change(6, 1, 9);
        due("five are not", six.laugh(0, 1), 126);
    }

    private static void rounds() {
        LaughTax x = Rooms.chain();
        due("one by one", x.rounds(0), 3);
        x.law(1, 4);
        due("two by two", x.rounds(0), 2);
        x.law(1, 15);
        due("all at once", x.rounds(0), 1);
        x.law(1, 0);
        due("none", x.rounds(0), 0);
        due("no such", x.rounds(1), BEYOND);
        due("below", x.rounds(-1), BEYOND);
        due("nobody", Rooms.room("joke 1 1").rounds(0), 0);
    }

    private static void raised() {
        LaughTax x = Rooms.room("hearer taste 2 mood 9;giggler on 1 mood 0 purse 1;hearer on 9 mood 0;joke 2 9;rate 10");
        due("with purses", x.raised(0), 19);
        due("nothing changes", x.now(1) * 1000 + x.now(2), 201);
        due("nothing is told", x.now(0), 0);
        due("moods", x.now(3), 9);
        due("no such", x.raised(1), BEYOND);
        due("below", x.raised(-1), BEYOND);
        LaughTax full = Rooms.fullTreasury();
        full.relief(5);
        due("what the treasury can take", full.raised(0), 5);
        due("nobody", Rooms.room("joke 1 1").raised(0), 0);
    }

    private static void ahead() {
        LaughTax x = Rooms.room("hearer taste 2 mood 9;giggler on 1 mood 0;joke 2 1;rate 10");
        int[] at = new int[61];
        for (int n = 0; n <= 60; n++) {
            at[n] = x.ahead(0, n);
        }
        due("nothing changes", x.now(0) + x.now(1), 0);
        for (int n = 0; n <= 60; n++) {
            due("n " + n, at[n], x.now(1));
            x.tell(0);
        }
        due("n -1", x.ahead(0, -1), BEYOND);
        due("n 61", x.ahead(0, 61), BEYOND);
        due("no such", x.ahead(1, 0), BEYOND);
        due("below", x.ahead(-1, 0), BEYOND);
    }

    /** Who LAUGHS by itself does so ever after (its MOOD grows, its BOUND doesn't): 0 or NONE. */
    private static void stale() {
        LaughTax x = Rooms.room("hearer taste 0 mood 8;joke 1 1");
        due("a merry one laughs on", x.stale(0), NONE);
        due("nothing changes", x.now(0) * 100 + x.of(0, 3), 8);
        x.change(0, 3, 7);
        due("nobody laughs now", x.stale(0), 0);
        due("nobody there", Rooms.room("joke 1 1").stale(0), 0);
        due("no such", x.stale(1), BEYOND);
        due("below", x.stale(-1), BEYOND);
    }

    private static void broke() {
        LaughTax x = Rooms.room("hearer taste 2 mood 9;giggler on 1 mood 0 purse 1;hearer on 9 purse 0;hearer on 12;joke 2 9;rate 10");
        due("18 each time of 100", x.broke(0, 0), 6);
        due("at the first", x.broke(0, 1), 1);
        due("already", x.broke(0, 2), 0);
        due("never", x.broke(0, 3), NONE);
        due("nothing changes", x.now(2), 201);
        // one unit each time: 60 times are looked at, and not a 61st
        LaughTax y = Rooms.room("inspector taste 63 mood 9 purse 60;hearer taste 0 mood 0;joke 63 9;rate 10");
        due("behind 60", y.broke(0, 0), 60);
        y.change(0, 4, 61);
        due("behind 61", y.broke(0, 0), NONE);
        due("no such joke", x.broke(1, 0), BEYOND);
        due("joke below", x.broke(-1, 0), BEYOND);
        due("nobody", x.broke(0, 4), BEYOND);
        due("person below", x.broke(0, -1), BEYOND);
    }

    // ---- catching

    private static void caught() {
        LaughTax x = Rooms.chain();
        due("from the first", x.caught(1), 15);
        due("from nobody", x.caught(0), 0);
        due("from all", x.caught(15), 15);
        due("one that isn't there", x.caught(16), BEYOND);
        due("below", x.caught(-1), BEYOND);
        due("far off", x.caught(LEAST), BEYOND);
        x.change(1, 0, 4);
        due("a fool is no bridge", x.caught(1), 1);
        due("but may begin", x.caught(2), 15);
        x.change(1, 0, 0);
        due("a hearer wants two", x.caught(1), 1);
        due("and has them", x.caught(5), 15);
        for (int p = 4; p < 8; p++) {
            x.person(4, 15);
        }
        due("all of eight", x.caught(255), 255);
        due("a 9th", x.caught(256), BEYOND);
    }

    private static void starter() {
        due("nobody", new LaughTax().starter(), NONE);
        LaughTax x = Rooms.chain();
        due("of several the least", x.starter(), 0);
        x.change(2, 0, 0);
        // 0 and 1 reach each other; 2 reaches 1 and 3, so 0 too; 3 alone reaches nobody
        due("most", x.starter(), 2);
        x.change(2, 0, 4);
        due("a fool, too", x.starter(), 2);
        due("one alone", Rooms.room("fool").starter(), 0);
    }

    private static void fewest() {
        due("nobody", new LaughTax().fewest(), 0);
        LaughTax x = Rooms.chain();
        due("one", x.fewest(), 1);
        x.change(2, 0, 0);
        due("the one between", x.fewest(), 4);
        x.change(0, 0, 4);
        due("the fool must", x.fewest(), 5);
        x.law(1, 0);
        due("all", x.fewest(), 15);
        // two of four hearers on a seat: of several the least
        LaughTax y = Rooms.room("hearer;hearer;hearer;hearer");
        due("the least two", y.fewest(), 3);
    }

    private static void away() {
        LaughTax x = Rooms.chain();
        due("none of them", x.away(0, 4), 0);
        due("8", x.away(0, 8), 0);
        due("three", x.away(0, 3), 1);
        due("the one who begins", x.away(0, 0), 1);
        x.change(3, 2, 2);
        due("both who begin", x.away(0, 0), 9);
        due("one, of several the least", x.away(0, 3), 1);
        due("two remain", x.away(0, 2), 3);
        due("one remains", x.away(0, 1), 5);
        due("k -1", x.away(0, -1), BEYOND);
        due("k 9", x.away(0, 9), BEYOND);
        due("no such", x.away(1, 0), BEYOND);
        due("below", x.away(-1, 0), BEYOND);
        due("nobody there", Rooms.room("joke 1 1").away(0, 0), 0);
    }

    private static void seatFor() {
        LaughTax x = Rooms.chain();
        // with the first on 0 all laugh; from 9 on it is alone
        due("where it begins nothing", x.seatFor(0, 0), 9);
        // without 1 between, on 0 the others are out of reach, too; 1 itself laughs unless it is beyond 2
        due("a bridge away", x.seatFor(1, 0), 3);
        due("a last one", x.seatFor(3, 0), 7);
        due("nothing changes", x.of(0, 1) * 100 + x.of(1, 1) * 10 + x.of(3, 1), 26);
        due("near as it was", x.of(0, 7), 1);
        due("least of several", Rooms.room("fool on 5;joke 1 1").seatFor(0, 0), 0);
        due("the last seat", Rooms.room("giggler taste 2 mood 0;giggler mood 0;joke 2 9;reach 14").seatFor(0, 0), 15);
        LaughTax eight = Rooms.aunts();
        for (int p = 0; p < 8; p++) {
            eight.change(p, 1, 0);
        }
        eight.change(4, 2, 0);
        eight.change(4, 3, 0);
        due("seven of eight", eight.seatFor(4, 0), 3);
        due("nobody", x.seatFor(4, 0), BEYOND);
        due("person below", x.seatFor(-1, 0), BEYOND);
        due("no such joke", x.seatFor(0, 1), BEYOND);
        due("joke below", x.seatFor(0, -1), BEYOND);
    }

    private static void kindFor() {
        LaughTax x = Rooms.chain();
        // 0 laughs as any but a fool
        due("least of several", x.kindFor(0, 0), 0);
        // 1 catches it from one as a giggler
        due("a bridge", x.kindFor(1, 0), 2);
        x.change(1, 3, 5);
        // with mood 5 a child laughs by itself, a giggler does already
        due("still the giggler", x.kindFor(1, 0), 2);
        due("nothing changes", x.of(1, 0), 2);
        LaughTax y = Rooms.room("giggler mood 3;joke 2 0");
        due("only an aunt laughs at 3", y.kindFor(0, 0), 3);
        y.change(0, 3, 2);
        due("none does", y.kindFor(0, 0), 0);
        due("nobody", x.kindFor(4, 0), BEYOND);
        due("person below", x.kindFor(-1, 0), BEYOND);
        due("no such joke", x.kindFor(0, 1), BEYOND);
        due("joke below", x.kindFor(0, -1), BEYOND);
    }

    private static void reachFor() {
        LaughTax x = Rooms.chain();
        x.law(1, 0);
        due("least", x.reachFor(0), 2);
        due("nothing changes", x.now(5), 0);
        due("near as it was", x.of(0, 7), 0);
        x.change(3, 1, 15);
        due("farther", x.reachFor(0), 11);
        x.change(1, 1, 0);
        x.change(2, 1, 0);
        due("all the row", x.reachFor(0), 15);
        x.change(3, 0, 4);
        due("with none", x.reachFor(0), NONE);
        due("nobody there", Rooms.room("joke 1 1").reachFor(0), 0);
        due("no such", x.reachFor(1), BEYOND);
        due("below", x.reachFor(-1), BEYOND);
    }

    // ---- laws

    private static void rateFor() {
        LaughTax x = Rooms.room("hearer taste 2 mood 9;giggler on 1 mood 0 purse 0;joke 2 9;rate 3");
        // 18 seconds by 1: 1.8 a rate; 100 at most
        due("20 of them bring 36", x.rateFor(0, 1), 20);
        due("19 bring 34 three times, 20 bring 36: 100 is reached by 19", x.rateFor(0, 3), 19);
        due("5 a telling do for 20", x.rateFor(0, 20), 3);
        due("nothing changes", x.now(4), 3);
        due("nothing is paid", x.now(1), 0);
        due("nobody pays: the least", Rooms.room("joke 1 1").rateFor(0, 5), 0);
        due("n 0", x.rateFor(0, 0), BEYOND);
        due("n 21", x.rateFor(0, 21), BEYOND);
        due("no such", x.rateFor(1, 1), BEYOND);
        due("below", x.rateFor(-1, 1), BEYOND);
    }

    private static void best() {
        LaughTax x = Rooms.room("hearer taste 4 mood 0;hearer on 4 taste 8 mood 0;hearer on 8 taste 48 mood 0;reach 0");
        due("fun 9: one of each", x.best(9), 4 + 8 + 16);
        due("fun 8: as well", x.best(8), 28);
        due("fun 4: two topics of the last", x.best(4), 48);
        due("fun 3: none laughs", x.best(3), 1);
        due("fun 0", x.best(0), 1);
        due("fun 10", x.best(10), BEYOND);
        due("fun -1", x.best(-1), BEYOND);
        due("nobody", new LaughTax().best(9), 1);
        due("only all topics do", Rooms.room("hearer taste 63 mood 2").best(1), 63);
    }

    private static void quiet() {
        LaughTax x = Rooms.room("hearer taste 7 mood 0;hearer on 4 taste 3 mood 0;hearer on 8 taste 4 mood 0;hearer on 12 taste 9 mood 0;reach 0");
        due("fun 9: two like 2 or 4, one likes 8", x.quiet(9), 8);
        due("fun 4: two like 3, one likes 5 of 7", x.quiet(4), 5);
        due("fun 2: none", x.quiet(2), NONE);
        x.change(3, 3, 9);
        due("one laughs always", x.quiet(0), 1);
        due("fun 10", x.quiet(10), BEYOND);
        due("fun -1", x.quiet(-1), BEYOND);
        due("nobody", new LaughTax().quiet(9), NONE);
        due("only all topics do", Rooms.room("hearer taste 63 mood 2").quiet(1), 63);
        due("all eight laugh always", Rooms.aunts().quiet(0), 1);
    }

    private static void safe() {
        LaughTax x = Rooms.room("hearer taste 6 mood 0;reach 0");
        due("one topic", x.safe(3), 7);
        due("two topics", x.safe(6), 3);
        due("none of its taste", x.safe(1), 9);
        x.change(0, 3, 7);
        due("mood 7", x.safe(6), 0);
        x.change(0, 3, 8);
        due("mood 8", x.safe(6), NONE);
        due("topics 0", x.safe(0), BEYOND);
        due("topics 64", x.safe(64), BEYOND);
        due("topics -1", x.safe(-1), BEYOND);
        due("nobody", new LaughTax().safe(63), 9);
    }

    // ---- what was paid

    private static void tastes() {
        LaughTax x = Rooms.payer();
        due("sheet 4", x.tastes(4, 9, 9), BEYOND);
        due("sheet -1", x.tastes(-1, 9, 9), BEYOND);
        due("missing ahead of nobody", x.tastes(0, 9, 9), MISSING);
        Rooms.sheetOf(x, 0, 8, 9, 10);
        due("nobody", x.tastes(0, 2, 0), BEYOND);
        due("person below", x.tastes(0, -1, 0), BEYOND);
        due("no such joke", x.tastes(0, 0, 2), BEYOND);
        due("joke below", x.tastes(0, 0, -1), BEYOND);
        // one of three topics of the JOKE, the other three free
        due("pays 9, then 10", x.tastes(0, 0, 0), 24);
        Rooms.sheetOf(x, 0, 8, 9, 9);
        due("never 9 again", x.tastes(0, 0, 0), 0);
        Rooms.sheetOf(x, 0, 16, -1, 16);
        due("any, then 16", x.tastes(0, 0, 0), 24);
        Rooms.sheetOf(x, 0, 32, 0, 0, 0);
        due("nothing ever", x.tastes(0, 0, 0), 8);
        Rooms.sheetOf(x, 0, 32, -1, -1, -1);
        due("any", x.tastes(0, 0, 0), 64);
        x.sheet(0, 8, 0);
        due("no numbers", x.tastes(0, 0, 0), 64);
        Rooms.sheetOf(x, 0, 8, 21, 22, 23, 24, 10, 0);
        due("three topics, till the purse is out", x.tastes(0, 0, 0), 8);
        due("nothing changes", x.now(1) + x.of(0, 2), 1);
        Rooms.sheetOf(x, 1, 8, 255);
        due("255 of 8 bits is -1", x.tastes(1, 0, 0), 64);
        Rooms.sheetOf(x, 1, 8, -2);
        due("nobody pays -2", x.tastes(1, 0, 0), 0);
    }

    private static void taste() {
        LaughTax x = Rooms.payer();
        due("sheet 4", x.taste(4, 9, 9), BEYOND);
        due("sheet -1", x.taste(-1, 9, 9), BEYOND);
        due("missing ahead of nobody", x.taste(0, 9, 9), MISSING);
        Rooms.sheetOf(x, 0, 8, 9, 10);
        due("nobody", x.taste(0, 2, 0), BEYOND);
        due("no such joke", x.taste(0, 0, 2), BEYOND);
        due("the least with one", x.taste(0, 0, 0), 1);
        due("of the other joke", x.taste(0, 0, 1), NONE);
        Rooms.sheetOf(x, 0, 8, 15);
        due("the least with two", x.taste(0, 0, 0), 3);
        Rooms.sheetOf(x, 0, 8, 12);
        due("the topic 3", x.taste(0, 0, 1), 8);
        Rooms.sheetOf(x, 0, 8, 0);
        due("none of them", x.taste(0, 0, 0), 0);
        Rooms.sheetOf(x, 0, 8, 1);
        due("with no taste", x.taste(0, 0, 0), NONE);
        x.joke(63, 1);
        Rooms.sheetOf(x, 0, 8, 9);
        due("with all topics only", x.taste(0, 0, 2), 63);
    }

    private static void which() {
        LaughTax x = Rooms.payer();
        due("sheet 4", x.which(4), BEYOND);
        due("sheet -1", x.which(-1), BEYOND);
        due("missing", x.which(0), MISSING);
        x.change(0, 2, 9);
        // joke 0: 9 seconds; joke 1: 12 seconds
        Rooms.sheetOf(x, 0, 8, 9);
        due("joke 0", x.which(0), 1);
        Rooms.sheetOf(x, 0, 8, 12, 0);
        due("joke 1", x.which(0), 2);
        Rooms.sheetOf(x, 0, 8, -1, 0);
        due("any", x.which(0), 3);
        Rooms.sheetOf(x, 0, 8, 12, 1);
        due("the fool pays nothing", x.which(0), 0);
        Rooms.sheetOf(x, 0, 8, 9, 0, 77);
        due("beyond people: any", x.which(0), 1);
        x.sheet(0, 8, 0);
        due("no numbers", x.which(0), 3);
        due("nothing changes", x.now(0) + x.now(1), 0);
        x.change(0, 4, 8);
        Rooms.sheetOf(x, 0, 8, 8);
        due("what it has", x.which(0), 3);
        LaughTax none = new LaughTax();
        none.sheet(0, 8, 1);
        due("no jokes", none.which(0), 0);
    }

    // ---- by draws

    private static void shows() {
        LaughTax x = new LaughTax();
        due("n 0", x.shows(0), BEYOND);
        due("n 21", x.shows(21), BEYOND);
        due("n -1", x.shows(-1), BEYOND);
        due("no jokes", x.shows(1), STATE);
        due("z as it was", x.count(6), 1);
        x = Rooms.payer();
        LaughTax y = Rooms.payer();
        Rooms.read(x, "joke 3 2");
        Rooms.read(y, "joke 3 2");
        x.seed(-77);
        y.seed(-77);
        int z = -77;
        for (int i = 0; i < 20; i++) {
            z = z * 1103515245 + 12345;
            y.tell((z >>> 8) % 3);
        }
        due("20 draws", x.shows(20), y.now(1));
        due("z", x.count(6), z);
        due("purses", x.now(2), y.now(2));
        due("moods", x.now(3), y.now(3));
        due("told", x.now(0), 20);
        LaughTax one = Rooms.room("joke 1 1");
        due("one", one.shows(1), 0);
        due("z behind one", one.count(6), 1103527590);
    }

    private static void odds() {
        LaughTax x = new LaughTax();
        due("n -1", x.odds(-1, 0), BEYOND);
        due("n 15", x.odds(15, 0), BEYOND);
        due("what 2", x.odds(0, 2), BEYOND);
        due("what -1", x.odds(0, -1), BEYOND);
        due("no jokes", x.odds(0, 0), NONE);
        x = Rooms.room("hearer mood 0;joke 1 9;joke 2 9;joke 1 8;joke 1 7;joke 4 9;joke 8 9");
        due("2 of 6", x.odds(1, 0), 1);
        due("by 3", x.odds(1, 1), 3);
        due("14 times", x.odds(14, 1), 4782969);
        due("14 times above", x.odds(14, 0), 1);
        x.joke(1, 9);
        due("3 of 7", x.odds(14, 0), 4782969);
        due("by 7", x.odds(14, 1), 678223072849L);
        due("none drawn", x.odds(0, 0), 1);
        due("none drawn, below", x.odds(0, 1), 1);
        x.joke(2, 0);
        due("3 of 8", x.odds(14, 1), 4398046511104L);
        x.change(0, 0, 4);
        due("never", x.odds(3, 0), 0);
        due("never, below", x.odds(3, 1), 1);
        due("never at none", x.odds(0, 0), 1);
        x.change(0, 0, 0);
        x.change(0, 3, 9);
        due("always", x.odds(3, 0), 1);
        due("always, below", x.odds(3, 1), 1);
        due("nothing changes", x.now(0), 0);
    }

    private static void seed() {
        LaughTax x = new LaughTax();
        due("at first", x.seed(BEYOND), 1);
        due("that of a finding is none", x.seed(7), BEYOND);
        due("no finding", x.status(-1), 0);
        due("z", x.count(6), 7);
    }

    // ---- texts

    private static void feed() {
        LaughTax x = new LaughTax();
        due("n 0", x.feed(1, 0), BEYOND);
        due("n 5", x.feed(1, 5), BEYOND);
        due("n -1", x.feed(1, -1), BEYOND);
        due("4", x.feed(0x72617465, 4), 4);
        due("3, the highest is left", x.feed(0x7f203120, 3), 7);
        due("2", x.feed(0x7f7f203b, 2), 9);
        due("1", x.feed(0xffffff72, 1), 10);
        due("4", x.feed(0x61746539, 4), 14);
        due("rate 1  ;rate9", x.text(), 2);
        due("rate", x.now(4), 9);
        for (int i = 0; i < 29; i++) {
            x.feed(0, 4);
        }
        due("118", x.feed(0, 2), 118);
        due("too much", x.feed(0, 3), FULL);
        due("beyond ahead of full", x.feed(0, 5), BEYOND);
        due("just so", x.feed(0, 2), 120);
        due("one more", x.feed(0, 1), FULL);
        due("as it was", x.count(5), 120);
    }

    private static void wipe() {
        LaughTax x = new LaughTax();
        due("empty", x.wipe(), 0);
        x.feed(1, 3);
        due("3", x.wipe(), 3);
        due("empty again", x.count(5), 0);
        due("rate", Rooms.read(x, "rate 5"), 1);
    }

    private static void fault(String text, int place) {
        LaughTax x = Rooms.room("hearer on 3;joke 5 5;rate 4;reach 5");
        due("'" + text + "'", Rooms.read(x, text), -1 - place);
        due("tape behind '" + text + "'", x.count(5), 0);
        due("people behind '" + text + "'", x.count(1), 1);
        due("jokes behind '" + text + "'", x.count(2), 1);
        due("rate behind '" + text + "'", x.now(4), 4);
        due("reach behind '" + text + "'", x.now(5), 5);
        due("no finding of '" + text + "'", x.status(-1), 0);
    }

    private static void text() {
        LaughTax x = new LaughTax();
        due("all parts", Rooms.read(x, "  fool on015taste063mood09purse09999;aunt;joke063 09;  joke01 0 ; rate 0020;reach0"), 6);
        int[] fool = {4, 15, 63, 9, 9999};
        int[] aunt = {3, 0, 1, 3, 100};
        for (int what = 0; what < 5; what++) {
            due("fool " + what, x.of(0, what), fool[what]);
            due("aunt " + what, x.of(1, what), aunt[what]);
        }
        due("topics", x.jokeOf(0, 0), 63);
        due("fun", x.jokeOf(0, 1), 9);
        due("topics", x.jokeOf(1, 0), 1);
        due("fun", x.jokeOf(1, 1), 0);
        due("rate", x.now(4), 20);
        due("reach", x.now(5), 0);
        due("tape", x.count(5), 0);
        due("kinds", Rooms.read(x, "hearer;straight;giggler;child;inspector"), 5);
        int[] kinds = {4, 3, 0, 1, 2, 5, 6};
        for (int p = 0; p < 7; p++) {
            due("kind of " + p, x.of(p, 0), kinds[p]);
        }
        due("some parts", Rooms.read(x, "hearer taste 0 purse 0"), 1);
        due("taste", x.of(7, 2), 0);
        due("mood", x.of(7, 3), 3);
        due("purse", x.of(7, 4), 0);
        due("a 9th", Rooms.read(x, "rate 3;  aunt on 99"), -10);
        due("rate is as it was", x.now(4), 20);
        due("rate again", Rooms.read(x, "rate 3;rate 7;rate 5"), 3);
        due("the last counts", x.now(4), 5);
        due("rate 0", Rooms.read(x, "rate 0"), 1);
        due("rate is 0", x.now(4), 0);
        due("near is new", Rooms.room("hearer;hearer on 2;reach 1").of(0, 7), 0);
        LaughTax y = new LaughTax();
        y.person(2, 5);
        due("beside one that is there", Rooms.read(y, "aunt on 6"), 1);
        due("both", y.of(0, 0) * 10 + y.of(1, 0), 23);
        due("what the tape held is no part of it", Rooms.read(y, "rate"), -5);
        for (int i = 0; i < 30; i++) {
            y.feed(0x20202020, 4);
        }
        due("a full tape of blanks", y.text(), -121);
        for (int i = 0; i < 29; i++) {
            y.feed(0x20202020, 4);
        }
        y.feed(0x72617465, 4);
        due("a full tape that ends with a word", y.text(), -121);
        for (int i = 0; i < 30; i++) {
            y.feed(0x30303030, 4);
        }
        due("a full tape of digits", y.text(), -1);
        faults();
    }

    private static void faults() {
        fault("", 0);
        fault("   ", 3);
        fault(";", 0);
        fault("7", 0);
        fault("rate", 4);
        fault("rate  ", 6);
        fault("rate 3;", 7);
        fault("rate 3; ", 8);
        fault("rate 3;;rate 3", 7);
        fault("rate 3 rate 3", 7);
        fault("rate 3 4", 7);
        fault("rate rate", 5);
        fault("rate;", 4);
        fault("rate 21", 5);
        fault("rate -1", 5);
        fault("reach 16", 6);
        fault("rate 99999999999999999999", 5);
        fault("rate 4294967297", 5);
        fault("Rate 3", 0);
        fault("rate\t3", 4);
        fault("rate 3\n", 6);
        fault("rate 3" + (char) 0, 6);
        fault("rate 3" + (char) 233, 6);
        fault("rate 3/", 6);
        fault("rate 3:", 6);
        fault("aunt`", 4);
        fault("aunt{", 4);
        fault("auntz", 0);
        fault("bunt", 0);
        fault("aunx", 0);
        fault("rates 3", 0);
        fault("rat 3", 0);
        fault("ratereach 3", 0);
        fault("on 3", 0);
        fault("aunt on", 7);
        fault("aunt on 16", 8);
        fault("aunt on aunt", 8);
        fault("aunt on 1 on 1", 10);
        fault("aunt ons 1", 5);
        fault("aunt taste 64", 11);
        fault("aunt mood 10", 10);
        fault("aunt purse 10000", 11);
        fault("aunt purse 1 mood 1", 13);
        fault("aunt mood 1 taste 1", 12);
        fault("aunt taste 1 on 1", 13);
        fault("aunt taste 1 taste 1", 13);
        fault("aunt 1", 5);
        fault("auntmood 1", 0);
        fault("aunt uncle", 5);
        fault("joke", 4);
        fault("joke 0 1", 5);
        fault("joke 64 1", 5);
        fault("joke 1", 6);
        fault("joke 1;", 6);
        fault("joke 1 10", 7);
        fault("joke 1 x", 7);
        fault("joke 12", 7);
        fault("joke 1 1 1", 9);
        fault("hearer;joke 3 3;reach 3;rate 3;duke", 31);
        fault("child;child;child;child;child;child;child;child", 42);
        fault("joke 1 1;joke 1 1;joke 1 1;joke 1 1;joke 1 1;joke 1 1;joke 1 1;joke", 63);
    }

    // ---- spots, sheets

    private static void hold() {
        LaughTax x = Rooms.room("hearer;aunt");
        due("spot 0", x.hold(0, 1), 1);
        due("spot 9", x.hold(9, 0), 1);
        due("holds", x.as(0, 0), 1);
        due("holds", x.as(9, 0), 0);
        due("two", x.count(7), 2);
        due("nothing", x.hold(0, -1), 1);
        due("holds nothing", x.as(0, 0), MISSING);
        due("nothing again", x.hold(0, -1), 1);
        due("spot 10", x.hold(10, 0), BEYOND);
        due("spot -1", x.hold(-1, 0), BEYOND);
        due("nobody", x.hold(1, 2), BEYOND);
        due("below", x.hold(1, -2), BEYOND);
        due("one", x.count(7), 1);
    }

    private static void as() {
        LaughTax x = Rooms.room("hearer;straight;giggler;aunt;fool;child;inspector");
        int[] kindsOf = {1, 1 + 2, 1 + 4, 1 + 4 + 8, 1 + 4 + 8 + 16, 1 + 32, 1 + 2 + 64};
        for (int p = 0; p < 7; p++) {
            x.hold(p, p);
            for (int kind = 0; kind < 7; kind++) {
                boolean is = (kindsOf[p] >> kind & 1) == 1;
                due(p + " as " + kind, x.as(p, kind), is ? p : KIND);
            }
        }
        x.change(0, 0, 4);
        due("what it is now", x.as(0, 3), 0);
        due("missing", x.as(7, 0), MISSING);
        due("beyond ahead of missing", x.as(7, 7), BEYOND);
        due("kind -1", x.as(0, -1), BEYOND);
        due("spot 10", x.as(10, 0), BEYOND);
        due("spot -1", x.as(-1, 0), BEYOND);
    }

    private static void sheet() {
        LaughTax x = Rooms.room("hearer;hearer");
        due("8 bits", x.sheet(0, 8, 40), 40);
        due("16 bits", x.sheet(1, 16, 1), 1);
        due("32 bits", x.sheet(3, 32, 0), 0);
        due("sheet 4", x.sheet(4, 8, -1), BEYOND);
        due("sheet -1", x.sheet(-1, 8, 1), BEYOND);
        due("24 bits", x.sheet(0, 24, -1), BEYOND);
        due("64 bits", x.sheet(0, 64, 1), BEYOND);
        due("-8 bits", x.sheet(0, -8, 1), BEYOND);
        due("n -1", x.sheet(0, 8, -1), SIZE);
        due("n -1 with bits 0", x.sheet(0, 0, -1), SIZE);
        due("least n", x.sheet(0, 8, LEAST), SIZE);
        due("n 41", x.sheet(0, 8, 41), BEYOND);
        due("n 41 with bits 0", x.sheet(0, 0, 41), BEYOND);
        due("it is there yet", x.write(0, 39, 7), 1);
        due("no number 40", x.write(0, 40, 7), BEYOND);
        x.write(0, 0, 5);
        x.write(0, 1, 5);
        due("made anew", x.sheet(0, 8, 2), 2);
        x.load(0);
        due("all 0", x.of(0, 1) + x.of(1, 1), 0);
        due("away", x.sheet(0, 0, 40), 0);
        due("missing", x.load(0), MISSING);
    }

    private static void write() {
        LaughTax x = Rooms.room("hearer;hearer");
        due("sheet 4", x.write(4, 0, 0), BEYOND);
        due("sheet -1", x.write(-1, 0, 0), BEYOND);
        due("missing", x.write(0, -1, 0), MISSING);
        x.sheet(0, 8, 2);
        due("number 2", x.write(0, 2, 0), BEYOND);
        due("number -1", x.write(0, -1, 0), BEYOND);
        due("its lowest bits", x.write(0, 0, 256 + 9), 1);
        due("its lowest bits", x.write(0, 1, 65536 + 7), 1);
        due("loads", x.load(0), 2);
        due("seats", x.of(0, 1) * 100 + x.of(1, 1), 907);
        x.sheet(1, 16, 2);
        x.write(1, 0, 65536 + 3);
        x.write(1, 1, 256 + 3);
        due("16 bits", x.load(1), 1);
        due("seat", x.of(0, 1), 3);
        x.sheet(2, 32, 1);
        x.write(2, 0, 65536 + 3);
        due("32 bits", x.load(2), 0);
        x.sheet(3, 8, 0);
        due("an empty one", x.write(3, 0, 0), BEYOND);
    }

    private static void seats(LaughTax x, int s, int... want) {
        for (int p = 0; p < want.length; p++) {
            x.change(p, 1, 15);
        }
        due("loads", x.load(s), want.length);
        for (int p = 0; p < want.length; p++) {
            due("number " + p, x.of(p, 1), want[p]);
        }
    }

    private static void copy() {
        LaughTax x = Rooms.room("hearer;hearer;hearer;hearer;hearer");
        due("sheet 4", x.copy(4, 0, 0, 0, 0), BEYOND);
        due("sheet -1", x.copy(0, 0, -1, 0, 0), BEYOND);
        due("to sheet 4", x.copy(0, 0, 4, 0, 0), BEYOND);
        due("sheet -1", x.copy(-1, 0, 0, 0, 0), BEYOND);
        due("missing", x.copy(0, -1, 1, 0, 0), MISSING);
        Rooms.sheetOf(x, 0, 8, 1, 2, 3, 4, 5);
        due("the other is missing", x.copy(0, 0, 1, 0, 0), MISSING);
        due("the other is missing", x.copy(1, 0, 0, 0, 0), MISSING);
        x.sheet(1, 16, 5);
        due("other bits", x.copy(0, -1, 1, 0, 9), KIND);
        x.sheet(1, 8, 4);
        due("from -1", x.copy(0, -1, 1, 0, 1), BEYOND);
        due("to -1", x.copy(0, 0, 1, -1, 1), BEYOND);
        due("n -1", x.copy(0, 0, 1, 0, -1), BEYOND);
        due("too many there", x.copy(0, 0, 1, 0, 5), BEYOND);
        due("too many here", x.copy(0, 4, 1, 0, 2), BEYOND);
        due("too great", x.copy(0, 1, 1, 1, MOST), BEYOND);
        due("too far", x.copy(0, MOST, 1, MOST, MOST), BEYOND);
        due("none at the end", x.copy(0, 5, 1, 4, 0), 0);
        due("none behind the end", x.copy(0, 6, 1, 4, 0), BEYOND);
        due("three", x.copy(0, 2, 1, 1, 3), 3);
        seats(x, 1, 0, 3, 4, 5);
        due("up in itself", x.copy(0, 0, 0, 1, 4), 4);
        seats(x, 0, 1, 1, 2, 3, 4);
        due("down in itself", x.copy(0, 1, 0, 0, 4), 4);
        seats(x, 0, 1, 2, 3, 4, 4);
        x.sheet(3, 8, 5);
        due("all of it", x.copy(0, 0, 3, 0, 5), 5);
        seats(x, 3, 1, 2, 3, 4, 4);
        x.sheet(2, 8, 5);
        due("from the last", x.copy(3, 2, 2, 0, 3), 3);
        seats(x, 2, 3, 4, 4, 0, 0);
    }

    private static void load() {
        LaughTax x = Rooms.room("hearer;hearer on 9;hearer");
        due("sheet 4", x.load(4), BEYOND);
        due("sheet -1", x.load(-1), BEYOND);
        due("missing", x.load(0), MISSING);
        Rooms.sheetOf(x, 0, 8, 3, 15, 0, 2);
        due("nobody for the last", x.load(0), 3);
        due("seats", x.of(0, 1) * 10000 + x.of(1, 1) * 100 + x.of(2, 1), 31500);
        due("near is new", x.of(0, 7), 0);
        Rooms.sheetOf(x, 0, 8, 1, 16, 2);
        due("16 is no seat", x.load(0), 1);
        due("seats", x.of(0, 1) * 10000 + x.of(1, 1) * 100 + x.of(2, 1), 11500);
        due("near is new again", x.of(0, 7), 1);
        Rooms.sheetOf(x, 0, 8, 4);
        due("fewer numbers than people", x.load(0), 1);
        due("the next is where it was", x.of(1, 1), 15);
        Rooms.sheetOf(x, 0, 8, -1);
        due("-1 is no seat", x.load(0), 0);
        x.sheet(0, 8, 0);
        due("no numbers", x.load(0), 0);
    }

    private static void judge() {
        LaughTax x = Rooms.chain();
        due("sheet 4", x.judge(4), BEYOND);
        due("sheet -1", x.judge(-1), BEYOND);
        due("missing", x.judge(0), MISSING);
        Rooms.sheetOf(x, 0, 8, 0, 1, 2, 3);
        due("in their order", x.judge(0), 0);
        x.change(3, 2, 2);
        Rooms.sheetOf(x, 0, 8, 3, 0);
        due("both by themselves now", x.judge(0), 0);
        x.change(3, 2, 1);
        x.change(0, 2, 1);
        x.change(1, 2, 2);
        Rooms.sheetOf(x, 0, 8, 0, 1);
        due("1 by itself, 0 behind it", x.judge(0), 2);
        x.change(0, 2, 2);
        x.change(1, 2, 1);
        Rooms.sheetOf(x, 0, 8, 1, 3);
        due("not all of them", x.judge(0), 0);
        Rooms.sheetOf(x, 0, 8, 0, 2, 1);
        due("1 is earlier than 2", x.judge(0), 3);
        Rooms.sheetOf(x, 0, 8, 0, 1, 1);
        due("twice", x.judge(0), 3);
        Rooms.sheetOf(x, 0, 8, 4);
        due("nobody", x.judge(0), 1);
        Rooms.sheetOf(x, 0, 8, 0, -1);
        due("below", x.judge(0), 2);
        Rooms.sheetOf(x, 0, 32, 0, LEAST);
        due("far below", x.judge(0), 2);
        Rooms.sheetOf(x, 0, 32, 0, 32 + 1);
        due("far above", x.judge(0), 2);
        x.change(3, 1, 15);
        Rooms.sheetOf(x, 0, 8, 0, 1, 2, 3);
        due("3 doesn't laugh", x.judge(0), 4);
        x.law(1, 4);
        Rooms.sheetOf(x, 0, 8, 0, 2, 1);
        due("both in one round", x.judge(0), 0);
        x.sheet(0, 8, 0);
        due("no numbers", x.judge(0), 0);
        LaughTax none = Rooms.room("hearer");
        due("missing ahead of no joke", none.judge(0), MISSING);
        none.sheet(0, 8, 0);
        due("no joke", none.judge(0), STATE);
    }

    // ---- images

    private static void image() {
        LaughTax x = Rooms.payer();
        due("kept", x.image(), 1);
        x.tell(0);
        due("kept anew", x.image(), 1);
        x.tell(0);
        due("the latest", x.undo(), 1);
    }

    private static void undo() {
        LaughTax x = Rooms.payer();
        due("nothing kept", x.undo(), NONE);
        x.hold(3, 1);
        x.change(0, 2, 5);
        x.image();
        x.seed(5);
        x.hold(3, -1);
        x.hold(4, 0);
        x.evening(0, 4);
        x.law(0, 3);
        x.law(1, 9);
        x.joke(1, 1);
        x.person(2, 2);
        for (int what = 0; what < 5; what++) {
            x.change(0, what, 6);
        }
        x.sheet(0, 8, 3);
        x.feed(7, 2);
        x.tell(99);
        int findings = x.status(-1);
        due("told", x.undo(), 0);
        due("z", x.count(6), 1);
        due("spots", x.count(7), 1);
        due("spot", x.as(3, 0), 1);
        due("treasury", x.now(1), 0);
        due("rate", x.now(4), 10);
        due("reach", x.now(5), 2);
        due("jokes", x.count(2), 2);
        due("people", x.count(1), 2);
        int[] first = {0, 1, 5, 3, 100, 8, 2, 1};
        for (int what = 0; what < 8; what++) {
            due("of 0, " + what, x.of(0, what), first[what]);
        }
        due("sheets are as they were", x.load(0), 2);
        due("the tape is as it was", x.count(5), 2);
        due("findings", x.status(-1), findings);
        x.tell(0);
        due("it stays", x.undo(), 0);
        due("treasury again", x.now(1), 0);
    }

    private static void tear() {
        LaughTax x = Rooms.payer();
        due("nothing", x.tear(), 0);
        x.image();
        due("something", x.tear(), 1);
        due("nothing more", x.tear(), 0);
        due("nothing to become", x.undo(), NONE);
    }

    private static void count() {
        LaughTax x = Rooms.room("hearer taste 2 mood 9 purse 50;giggler on 1 mood 0 purse 7;joke 2 9;rate 10;joke 1 1;joke 1 1");
        x.tell(0);
        x.feed(0, 4);
        x.seed(-5);
        x.hold(2, 0);
        x.hold(9, 0);
        int[] want = {1, 2, 3, 20, 37, 4, -5, 2};
        for (int what = 0; what < 8; what++) {
            due("what " + what, x.count(what), want[what]);
        }
        due("what 8", x.count(8), BEYOND);
        due("what -1", x.count(-1), BEYOND);
    }

    private static void status() {
        LaughTax x = new LaughTax();
        x.person(9, 9);
        x.tell(0);
        x.feed(0, 0);
        for (int i = 0; i < 9; i++) {
            x.person(0, 0);
        }
        x.hold(0, 0);
        x.as(0, 3);
        x.undo();
        x.odds(0, 0);
        x.shows(1);
        x.load(0);
        x.sheet(0, 8, -1);
        x.sheet(0, 8, -1);
        x.text();
        int[] want = {3, 1, 1, 2, 1, 1, 2};
        for (int which = 0; which < 7; which++) {
            due("which " + which, x.status(which), want[which]);
        }
        due("all", x.status(-1), 11);
        due("which 7", x.status(7), BEYOND);
        due("which -2", x.status(-2), BEYOND);
        due("counted from then on", x.status(0), 5);
        due("all from then on", x.status(-1), 13);
        x.image();
        x.tell(0);
        x.undo();
        due("undo takes none back", x.status(0), 6);
    }
}
