/** The document's terms: each sentence that names a boundary has a test of its own, on both sides of it. */
public final class TermsTest {
    private static final int HEARER = 0;
    private static final int STRAIGHT = 1;
    private static final int GIGGLER = 2;
    private static final int AUNT = 3;
    private static final int FOOL = 4;
    private static final int CHILD = 5;
    private static final int INSPECTOR = 6;

    public static void main(String[] args) {
        findings();
        seatsAndReach();
        atFirst();
        strengths();
        bounds();
        cutTenths();
        numbers();
        nearForCatching();
        seconds();
        rounds();
        due();
        payments();
        treasury();
        moods();
        told();
        draws();
        tokens();
        numbersOfTexts();
        items();
        ninths();
        tooEarly();
        Edges.end();
    }

    private static void edge(String words, Runnable body) {
        Edges.edge(0, words, body);
    }

    private static void due(String call, long got, long want) {
        Edges.due(call, got, want);
    }

    private static LaughTax room(String text) {
        return Rooms.room(text);
    }

    private static void findings() {
        edge("LOW is -1000001; LOW BEYOND", () -> due("tell", new LaughTax().tell(0), -1000001));
        edge("LOW - 1 FULL", () -> due("person", Rooms.full().person(0, 0), -1000002));
        edge("LOW - 2 KIND", () -> {
            LaughTax x = room("hearer");
            x.hold(0, 0);
            due("as", x.as(0, 1), -1000003);
        });
        edge("LOW - 3 NONE", () -> due("undo", new LaughTax().undo(), -1000004));
        edge("LOW - 4 STATE", () -> due("shows", new LaughTax().shows(1), -1000005));
        edge("LOW - 5 MISSING", () -> due("load", new LaughTax().load(0), -1000006));
        edge("LOW - 6 SIZE", () -> due("sheet", new LaughTax().sheet(0, 8, -1), -1000007));
        edge("in longs, too: BEYOND", () -> due("odds", new LaughTax().odds(15, 0), -1000001L));
        edge("in longs, too: NONE", () -> due("odds", new LaughTax().odds(0, 0), -1000004L));
    }

    // ---- 1

    private static int near(LaughTax x) {
        return x.of(0, 7);
    }

    private static void seatsAndReach() {
        edge("SEATS 0 to 15: the first and the last", () -> {
            LaughTax x = new LaughTax();
            due("person", x.person(0, 0), 0);
            due("person", x.person(0, 15), 1);
            due("seat", x.of(0, 1), 0);
            due("seat", x.of(1, 1), 15);
        });
        edge("in a row: its ends are no neighbours", () -> due("near", near(room("hearer;hearer on 15;reach 14")), 0));
        edge("in a row: REACH 15 goes from end to end", () ->
                due("near", near(room("hearer;hearer on 15;reach 15")), 1));
        edge("several may be on one", () -> due("near", near(Rooms.aunts()), 7));
        edge("no farther than REACH, upwards", () ->
                due("near", near(room("hearer on 7;hearer on 9;hearer on 10")), 1));
        edge("no farther than REACH, downwards", () ->
                due("near", near(room("hearer on 7;hearer on 5;hearer on 4")), 1));
        edge("REACH 0: just the own SEAT", () ->
                due("near", near(room("hearer on 7;hearer on 7;hearer on 6;hearer on 8;reach 0")), 1));
        edge("itself not", () -> due("near", near(room("hearer;reach 15")), 0));
    }

    private static void atFirst() {
        edge("RATE 1 at first", () -> due("rate", new LaughTax().now(4), 1));
        edge("REACH 2 at first", () -> due("reach", new LaughTax().now(5), 2));
        edge("THE TREASURY 0 at first", () -> due("treasury", new LaughTax().now(1), 0));
        edge("TASTE 1 at first", () -> due("taste", room("hearer").of(0, 2), 1));
        edge("MOOD 3 at first", () -> due("mood", room("hearer").of(0, 3), 3));
        edge("PURSE 100 at first", () -> due("purse", room("hearer").of(0, 4), 100));
        edge("z is 1 at first", () -> due("z", new LaughTax().count(6), 1));
        edge("SPOTS hold nothing at first", () -> due("spots", new LaughTax().count(7), 0));
        for (int sheet = 0; sheet < 4; sheet++) {
            int s = sheet;
            edge("SHEETS are MISSING at first: " + s, () -> due("write", new LaughTax().write(s, 0, 0), Edges.MISSING));
        }
    }

    /** One of a kind, alone, and a JOKE of a FUN and so many TOPICS of its TASTE. */
    private static LaughTax alone(int kind, int fun, int topics, int mood, int purse) {
        LaughTax x = new LaughTax();
        x.person(kind, 7);
        x.change(0, 2, (1 << topics) - 1);
        x.change(0, 3, mood);
        x.change(0, 4, purse);
        x.joke(63, fun);
        return x;
    }

    private static void strengths() {
        edge("STRENGTH at least", () -> due("strength", alone(HEARER, 9, 0, 0, 0).strength(0, 0, 0), 0));
        edge("STRENGTH at most", () -> due("strength", alone(HEARER, 9, 6, 9, 0).strength(0, 0, 0), 63));
        edge("STRENGTH with FUN 0", () -> due("strength", alone(HEARER, 0, 6, 9, 0).strength(0, 0, 0), 9));
        edge("STRENGTH with none of its TASTE", () -> due("strength", alone(HEARER, 9, 0, 9, 0).strength(0, 0, 0), 9));
        edge("STRENGTH by TOPICS that are in both", () -> {
            LaughTax x = room("hearer taste 45 mood 2;joke 54 7");
            due("strength", x.strength(0, 0, 0), 2 * 7 + 2);
        });
        for (int topic = 0; topic < 6; topic++) {
            int set = 1 << topic;
            edge("STRENGTH by TOPIC " + topic, () -> {
                LaughTax x = room("hearer taste " + set + " mood 0;joke " + set + " 5;joke " + (63 - set) + " 5");
                due("of it", x.strength(0, 0, 0), 5);
                due("of the others", x.strength(1, 0, 0), 0);
            });
        }
    }

    /** One LAUGHS with that STRENGTH (FUN 9, so many TOPICS, and MOOD), and not with one less of MOOD. */
    private static void bound(String words, int kind, int purse, int topics, int mood) {
        edge("BOUND of " + words, () -> {
            due("told", alone(kind, 9, topics, mood, purse).of(0, 5), 9 * topics + mood);
            due("just so", alone(kind, 9, topics, mood, purse).laugh(0, 0), 1);
            due("one less", alone(kind, 9, topics, mood - 1, purse).laugh(0, 0), 0);
        });
    }

    private static void bounds() {
        bound("HEARER: 8", HEARER, 100, 0, 8);
        bound("HEARER: 8, whatever the PURSE", HEARER, 9999, 0, 8);
        bound("STRAIGHT: 8, PURSE 0", STRAIGHT, 0, 0, 8);
        bound("STRAIGHT: and a tenth, PURSE 100", STRAIGHT, 100, 1, 9);
        bound("STRAIGHT: and a tenth, PURSE 199", STRAIGHT, 199, 2, 9);
        bound("STRAIGHT: 20 at most, PURSE 200", STRAIGHT, 200, 3, 1);
        bound("STRAIGHT: 20 at most, PURSE 210", STRAIGHT, 210, 3, 1);
        bound("STRAIGHT: 20 at most, PURSE 9999", STRAIGHT, 9999, 3, 1);
        bound("INSPECTOR: and 4, PURSE 0", INSPECTOR, 0, 1, 3);
        bound("INSPECTOR: and 4, PURSE 199", INSPECTOR, 199, 3, 4);
        bound("INSPECTOR: and 4, PURSE 200", INSPECTOR, 200, 3, 5);
        bound("INSPECTOR: and 4, PURSE 9999", INSPECTOR, 9999, 3, 5);
        bound("GIGGLER: half that of a HEARER", GIGGLER, 100, 0, 4);
        bound("AUNT: as a GIGGLER, less 1", AUNT, 100, 0, 3);
        bound("CHILD: as a HEARER, less 3", CHILD, 100, 0, 5);
        edge("BOUND of FOOL: as an AUNT, and 90", () -> {
            due("told", alone(FOOL, 9, 6, 9, 0).of(0, 5), 93);
            due("never", alone(FOOL, 9, 6, 9, 0).laugh(0, 0), 0);
        });
    }

    private static void cutTenths() {
        int[][] rows = {{0, 8}, {1, 8}, {9, 8}, {10, 9}, {19, 9}, {20, 10}, {189, 26}, {190, 27}, {199, 27}, {200, 28}};
        for (int[] row : rows) {
            edge("a tenth (cut) of PURSE " + row[0], () -> {
                due("straight", alone(STRAIGHT, 0, 0, 0, row[0]).of(0, 5), row[1]);
                due("inspector", alone(INSPECTOR, 0, 0, 0, row[0]).of(0, 5), row[1] + 4);
            });
        }
    }

    /** One of a kind among seven fools, who catch nothing themselves. */
    private static LaughTax amongFools(int kind, int mood) {
        LaughTax x = new LaughTax();
        x.person(kind, 7);
        x.change(0, 3, mood);
        for (int p = 1; p < 8; p++) {
            x.person(FOOL, 7);
        }
        return x;
    }

    private static void number(String words, int kind, int mood, int number) {
        edge("NUMBER of " + words, () -> {
            LaughTax x = amongFools(kind, mood);
            due("told", x.of(0, 6), number);
            for (int k = 0; k <= 7; k++) {
                int fools = ((1 << k) - 1) << 1;
                due("with " + k, x.caught(fools), k >= number ? fools + 1 : fools);
            }
        });
    }

    private static void numbers() {
        number("HEARER: 2", HEARER, 3, 2);
        number("HEARER: 2, whatever the MOOD", HEARER, 9, 2);
        number("STRAIGHT: 3", STRAIGHT, 3, 3);
        number("INSPECTOR: twice that of STRAIGHT", INSPECTOR, 3, 6);
        number("GIGGLER: 1", GIGGLER, 0, 1);
        number("AUNT: as GIGGLER", AUNT, 0, 1);
        number("FOOL: 9", FOOL, 9, 9);
        number("CHILD: as a HEARER, MOOD 0", CHILD, 0, 2);
        number("CHILD: as a HEARER, MOOD 4", CHILD, 4, 2);
        number("CHILD: less 1, MOOD 5", CHILD, 5, 1);
        number("CHILD: less 1, MOOD 9", CHILD, 9, 1);
    }

    private static void nearForCatching() {
        int[][] rows = {{7, 2, 1}, {9, 2, 1}, {5, 2, 1}, {10, 2, 0}, {4, 2, 0}, {7, 0, 1}, {8, 0, 0}, {6, 0, 0}};
        for (int[] row : rows) {
            edge("CATCHES from SEAT " + row[0] + " on SEAT 7 with REACH " + row[1], () -> {
                LaughTax x = room("giggler on 7;fool on " + row[0] + ";reach " + row[1]);
                due("caught", x.caught(2), 2 + row[2]);
            });
        }
        edge("as many that LAUGH: others that are NEAR don't count", () ->
                due("caught", room("hearer;fool;fool;fool").caught(2), 2));
    }

    private static void seconds() {
        int[][] strengths = {{0, 0}, {0, 1}, {0, 2}, {0, 3}, {3, 2}, {3, 3}, {3, 4}, {6, 9}};
        int[][] seconds = {
            {1, 1, 2, 3, 29, 30, 30, 30}, {1, 1, 2, 2, 15, 16, 16, 16}, {2, 2, 4, 6, 58, 60, 60, 60},
            {7, 7, 9, 11, 63, 65, 65, 65}, {0, 0, 0, 0, 0, 0, 0, 0}, {1, 1, 2, 3, 29, 30, 30, 30},
            {1, 1, 1, 1, 1, 1, 1, 1}};
        for (int k = 0; k < 7; k++) {
            for (int i = 0; i < strengths.length; i++) {
                int kind = k;
                int[] s = strengths[i];
                int want = seconds[k][i];
                edge("SECONDS of kind " + k + ", STRENGTH " + (9 * s[0] + s[1]), () ->
                        due("seconds", alone(kind, 9, s[0], s[1], 100).strength(0, 0, 1), want));
            }
        }
    }

    // ---- 2

    private static void rounds() {
        edge("round by round, till nobody does: the longest way", () -> {
            LaughTax x = new LaughTax();
            for (int p = 0; p < 8; p++) {
                x.person(GIGGLER, 2 * p);
                x.change(p, 3, 0);
            }
            x.change(0, 2, 2);
            x.joke(2, 9);
            due("rounds", x.rounds(0), 7);
            due("who", x.tell(0), 255);
        });
        edge("all at once: who catches it in a round doesn't count in it", () -> {
            LaughTax x = room("fool;giggler mood 0;hearer mood 0;joke 1 9");
            x.change(0, 0, GIGGLER);
            x.change(1, 2, 0);
            x.change(2, 2, 0);
            due("rounds", x.rounds(0), 2);
            due("who", x.tell(0), 7);
        });
        edge("nobody LAUGHS by itself: nobody catches it", () -> {
            LaughTax x = room("giggler mood 3;giggler mood 3;joke 2 9");
            due("rounds", x.rounds(0), 0);
            due("who", x.tell(0), 0);
        });
        edge("nobody is there", () -> {
            LaughTax x = room("joke 1 9");
            due("who", x.tell(0), 0);
            due("told", x.now(0), 1);
        });
    }

    /** A HEARER of 9 SECONDS, and others NEAR that don't LAUGH. */
    private static LaughTax owing(int rate, int others, int purse) {
        LaughTax x = new LaughTax();
        x.person(HEARER, 7);
        x.change(0, 3, 0);
        x.change(0, 4, purse);
        for (int p = 0; p < others; p++) {
            x.person(FOOL, 9);
        }
        x.joke(1, 9);
        x.law(0, rate);
        return x;
    }

    private static void due() {
        int[][] rows = {{0, 7, 0}, {1, 0, 0}, {1, 1, 0}, {1, 2, 1}, {2, 1, 1}, {10, 1, 9}, {11, 1, 9},
            {12, 1, 10}, {20, 7, 126}};
        for (int[] row : rows) {
            edge("DUE of 9 SECONDS with RATE " + row[0] + " and " + row[1] + " NEAR", () -> {
                LaughTax x = owing(row[0], row[1], 9999);
                due("due", x.strength(0, 0, 2), row[2]);
                due("who", x.tell(0), 1);
                due("purse", x.of(0, 4), 9999 - row[2]);
                due("treasury", x.now(1), row[2]);
            });
        }
        edge("DUE at most", () -> due("due", Rooms.aunts().strength(0, 0, 2), 65 * 20 * 7 / 10));
        edge("others, whether they LAUGH or not", () -> {
            LaughTax x = room("hearer mood 9;hearer mood 9;fool;joke 4 0;rate 10");
            due("due", x.strength(0, 0, 2), 18);
        });
    }

    private static void payments() {
        int[][] rows = {{0, 0}, {1, 1}, {8, 8}, {9, 9}, {10, 9}, {11, 9}, {9999, 9}};
        for (int[] row : rows) {
            edge("as much of 9 as its PURSE of " + row[0] + " has", () -> {
                LaughTax x = owing(10, 1, row[0]);
                due("raised", x.raised(0), row[1]);
                due("who", x.tell(0), 1);
                due("purse", x.of(0, 4), row[0] - row[1]);
                due("treasury", x.now(1), row[1]);
            });
        }
        edge("what is owed is by MOOD ahead of the telling", () -> {
            LaughTax x = owing(10, 1, 100);
            due("first", x.evening(0, 1), 9);
            due("then", x.evening(0, 1), 9 + 10);
        });
    }

    /** THE TREASURY can take so much more (9999 at most); the first aunt owes 910. */
    private static LaughTax takes(int more) {
        LaughTax x = Rooms.fullTreasury();
        for (int p = 0; p < 8; p++) {
            x.change(p, 4, 0);
        }
        x.relief(more);
        for (int p = 0; p < 8; p++) {
            x.change(p, 4, 9999);
        }
        return x;
    }

    private static void treasury() {
        edge("999999 at most", () -> due("treasury", Rooms.fullTreasury().now(1), 999999));
        int[][] rows = {{0, 0, 0}, {1, 1, 0}, {909, 909, 0}, {910, 910, 0}, {911, 910, 1}, {1820, 910, 910}};
        for (int[] row : rows) {
            edge("as THE TREASURY can take, " + row[0] + " more, by numbers", () -> {
                LaughTax x = takes(row[0]);
                due("treasury", x.now(1), 999999 - row[0]);
                due("raised", x.raised(0), row[0]);
                due("who", x.tell(0), 255);
                due("treasury then", x.now(1), 999999);
                due("of the first", x.of(0, 4), 9999 - row[1]);
                due("of the second", x.of(1, 4), 9999 - row[2]);
                due("of the third", x.of(2, 4), 9999);
            });
        }
        edge("as THE TREASURY can take, all of eight and one more", () -> {
            LaughTax x = takes(8 * 910 + 1);
            due("raised", x.raised(0), 8 * 910);
            due("who", x.tell(0), 255);
            due("treasury then", x.now(1), 999998);
            due("one more", x.evening(0, 1), 999999);
            due("of the first", x.of(0, 4), 9999 - 911);
        });
    }

    private static void moods() {
        int[][] rows = {{7, 8}, {8, 9}, {9, 9}};
        for (int[] row : rows) {
            edge("MOOD " + row[0] + " of one that LAUGHED", () -> {
                LaughTax x = alone(HEARER, 9, 1, row[0], 100);
                due("who", x.tell(0), 1);
                due("mood", x.of(0, 3), row[1]);
            });
        }
        int[][] others = {{0, 0}, {1, 0}, {2, 1}, {7, 6}, {9, 8}};
        for (int[] row : others) {
            edge("MOOD " + row[0] + " of one that didn't", () -> {
                LaughTax x = alone(FOOL, 9, 1, row[0], 100);
                due("who", x.tell(0), 0);
                due("mood", x.of(0, 3), row[1]);
            });
        }
    }

    private static void told() {
        edge("TOLD is one more", () -> {
            LaughTax x = room("joke 1 1");
            x.tell(0);
            due("told", x.now(0), 1);
        });
        edge("99999 at most", () -> {
            LaughTax x = Rooms.told(99998);
            due("up to it", x.tell(0), 0);
            due("told", x.now(0), 99999);
        });
        edge("what would be, when TOLD is 99999", () -> {
            LaughTax x = Rooms.told(99999);
            due("ahead", x.ahead(0, 60), 0);
            due("raised", x.raised(0), 0);
            due("stale", x.stale(0), 0);
        });
    }

    /** Which of three JOKES was TOLD is seen by who LAUGHED, and so has more of MOOD. */
    private static LaughTax threeJokes(int z) {
        LaughTax x = room("hearer mood 1;hearer on 5 taste 2 mood 1;hearer on 10 taste 4 mood 1;"
                + "joke 1 9;joke 2 9;joke 4 9");
        x.seed(z);
        return x;
    }

    private static void draw(int z, int then, int joke) {
        edge("a draw from z " + z, () -> {
            LaughTax x = threeJokes(z);
            x.shows(1);
            due("z", x.count(6), then);
            for (int p = 0; p < 3; p++) {
                due("mood of " + p, x.of(p, 3), p == joke ? 2 : 0);
            }
        });
    }

    /** By hand with z * 1103515245 + 12345 cut to 32 bits; z >>> 8 is never below 0, so its rest isn't. */
    private static void draws() {
        draw(1, 1103527590, 2);
        draw(0, 12345, 0);
        draw(-1, -1103502900, 1);
        draw(1103527590, -1770082073, 2);
        draw(Edges.MOST, 1043980748, 2);
        draw(Edges.LEAST, -2147471303, 2);
        draw(-77, 928684400, 1);
    }

    // ---- 3

    private static void reads(String text, long want) {
        edge("'" + text + "'", () -> {
            LaughTax x = new LaughTax();
            due("text", Rooms.read(x, text), want);
            due("tape", x.count(5), 0);
            due("findings", x.status(-1), 0);
        });
    }

    private static void fault(String text, int place) {
        reads(text, -1 - place);
    }

    private static void tokens() {
        reads("rate3", 1);
        reads("rate3;reach3", 2);
        reads("  rate   3  ;  reach  3  ", 2);
        reads("aunt on3taste3mood3purse3", 1);
        fault("auntaunt", 0);
        fault("aunta", 0);
        fault("auntz", 0);
        fault("zaunt", 0);
        fault("zate 3", 0);
        fault("zeach 3", 0);
        fault("zoke 1 1", 0);
        fault("aunt zn 3", 5);
        fault("aunton 3", 0);
        fault("rate 3 3", 7);
        fault("joke 12", 7);
        fault("rate 1a", 6);
        fault("Aunt", 0);
        fault("aunT", 0);
        fault("auntT", 4);
        fault("`aunt", 0);
        fault("aunt{", 4);
        fault("rate /", 5);
        fault("rate :", 5);
        fault("rate 3:", 6);
        fault("rate 3,rate 3", 6);
        fault("rate\t3", 4);
        fault("rate 3\n", 6);
        fault("rate 3" + (char) 0, 6);
        fault("rate 3" + (char) 160, 6);
        fault("rate 3" + (char) 255, 6);
        fault((char) 225 + "unt", 0);
        fault("rate 3" + (char) 187, 6);
        fault("rate " + (char) 179, 5);
    }

    private static void numbersOfTexts() {
        reads("aunt purse 9999", 1);
        fault("aunt purse 10000", 11);
        reads("aunt purse 00000000009999", 1);
        fault("aunt purse 99999999999999", 11);
        fault("rate 4294967296", 5);
        fault("rate 4294967297", 5);
        fault("rate 18446744073709551617", 5);
        edge("NUMBERS with digits 0 ahead", () -> {
            LaughTax x = new LaughTax();
            due("text", Rooms.read(x, "rate 0000000000000000000000000017"), 1);
            due("rate", x.now(4), 17);
        });
    }

    private static void part(String part, int what, int without, int most) {
        for (int v : new int[] {0, most}) {
            edge("perhaps " + part + " " + v, () -> {
                LaughTax x = new LaughTax();
                due("text", Rooms.read(x, "child " + part + " " + v), 1);
                due("of", x.of(0, what), v);
            });
        }
        edge("without " + part, () -> {
            LaughTax x = new LaughTax();
            due("text", Rooms.read(x, "child"), 1);
            due("of", x.of(0, what), without);
        });
        fault("child " + part + " " + (most + 1), 7 + part.length());
        fault("child " + part + " -1", 7 + part.length());
        fault("child " + part, 6 + part.length());
        fault("child " + part + ";", 6 + part.length());
        fault("child " + part + " 1 " + part + " 1", 9 + part.length());
    }

    private static void items() {
        part("on", 1, 0, 15);
        part("taste", 2, 1, 63);
        part("mood", 3, 3, 9);
        part("purse", 4, 100, 9999);
        fault("child taste 1 on 1", 14);
        fault("child mood 1 on 1", 13);
        fault("child purse 1 on 1", 14);
        fault("child mood 1 taste 1", 13);
        fault("child purse 1 taste 1", 14);
        fault("child purse 1 mood 1", 14);
        reads("child on 1 purse 1", 1);
        reads("child taste 1 purse 1", 1);
        reads("child on 1 mood 1", 1);
        reads("joke 1 0", 1);
        reads("joke 63 9", 1);
        fault("joke 0 9", 5);
        fault("joke 64 9", 5);
        fault("joke 63 10", 8);
        fault("joke 63 9 9", 10);
        reads("rate 0", 1);
        reads("rate 20", 1);
        fault("rate 21", 5);
        reads("reach 0", 1);
        reads("reach 15", 1);
        fault("reach 16", 6);
        fault("king", 0);
        fault("on 1", 0);
        fault("taste 1", 0);
        fault("3", 0);
        fault(";", 0);
        fault("aunt;;aunt", 5);
        fault("aunt;king", 5);
        fault("aunt king", 5);
        fault("aunt rate 3", 5);
        String[] words = {"hearer", "straight", "giggler", "aunt", "fool", "child", "inspector"};
        for (int k = 0; k < 7; k++) {
            int kind = k;
            edge("the WORD " + words[k], () -> due("kind", room(words[kind]).of(0, 0), kind));
            fault(words[k] + "s", 0);
            fault("z" + words[k].substring(1), 0);
            fault(words[k].substring(0, words[k].length() - 1), 0);
        }
    }

    private static void ninths() {
        edge("an 8th one", () -> due("text", Rooms.read(new LaughTax(), "aunt;aunt;aunt;aunt;aunt;aunt;aunt;aunt"), 8));
        fault("aunt;aunt;aunt;aunt;aunt;aunt;aunt;aunt; aunt on 99", 41);
        edge("a 9th one beside eight", () -> {
            LaughTax x = Rooms.full();
            x.wipe();
            due("text", Rooms.read(x, "rate 3;fool"), -1 - 7);
            due("rate", x.now(4), 1);
        });
        edge("an 8th JOKE", () -> {
            LaughTax x = new LaughTax();
            due("text", Rooms.read(x, "joke 1 1;joke 1 1;joke 1 1;joke 1 1;joke 1 1;joke 1 1;joke 1 1;joke 1 1"), 8);
        });
        fault("joke 1 1;joke 1 1;joke 1 1;joke 1 1;joke 1 1;joke 1 1;joke 1 1;joke 1 1; joke 99", 73);
        edge("a 9th JOKE beside eight", () -> {
            LaughTax x = Rooms.full();
            x.wipe();
            due("text", Rooms.read(x, "reach 3;joke 1 1"), -1 - 8);
            due("reach", x.now(5), 2);
        });
    }

    private static void tooEarly() {
        fault("", 0);
        fault(" ", 1);
        fault("rate", 4);
        fault("rate ", 5);
        fault("joke", 4);
        fault("joke 1", 6);
        fault("joke 1 ", 7);
        fault("reach", 5);
        fault("rate 3;", 7);
        fault("rate 3; ", 8);
        edge("THE TAPE of 120 bytes that ends too early", () -> {
            LaughTax x = new LaughTax();
            Rooms.put(x, "rate" + " ".repeat(116));
            due("text", x.text(), -121);
        });
        edge("THE TAPE of 120 bytes that ends just so", () -> {
            LaughTax x = new LaughTax();
            Rooms.put(x, "rate" + " ".repeat(114) + "12");
            due("text", x.text(), 1);
            due("rate", x.now(4), 12);
        });
        edge("most ITEMS", () -> {
            LaughTax x = new LaughTax();
            Rooms.put(x, "rate2;".repeat(19) + "rate 3");
            due("text", x.text(), 20);
            due("rate", x.now(4), 3);
        });
        edge("a WORD of 120 letters", () -> {
            LaughTax x = new LaughTax();
            Rooms.put(x, "rate".repeat(30));
            due("text", x.text(), -1);
        });
    }
}
