/** Promises 1 to 50 at what is just allowed: the first and the last number, empty and full, a wrap-around. */
public final class BoundsTest {
    private static final int NONE = Edges.NONE;
    private static final int MISSING = Edges.MISSING;
    private static final int LEAST = Edges.LEAST;
    private static final int MOST = Edges.MOST;

    private static int promise = 0;

    public static void main(String[] args) {
        promise = 1; newObject();
        promise = 2; person();
        promise = 3; of();
        promise = 4; change();
        promise = 5; joke();
        promise = 6; jokeOf();
        promise = 7; law();
        promise = 8; strength();
        promise = 9; tell();
        promise = 10; evening();
        promise = 11; now();
        promise = 12; relief();
        promise = 13; laugh();
        promise = 14; rounds();
        promise = 15; raised();
        promise = 16; ahead();
        promise = 17; stale();
        promise = 18; broke();
        promise = 19; caught();
        promise = 20; starter();
        promise = 21; fewest();
        promise = 22; away();
        promise = 23; seatFor();
        promise = 24; kindFor();
        promise = 25; reachFor();
        promise = 26; rateFor();
        promise = 27; best();
        promise = 28; quiet();
        promise = 29; safe();
        promise = 30; tastes();
        promise = 31; taste();
        promise = 32; which();
        promise = 33; shows();
        promise = 34; odds();
        promise = 35; seed();
        promise = 36; feed();
        promise = 37; wipe();
        promise = 38; text();
        promise = 39; hold();
        promise = 40; as();
        promise = 41; sheet();
        promise = 42; write();
        promise = 43; copy();
        promise = 44; load();
        promise = 45; judge();
        promise = 46; image();
        promise = 47; undo();
        promise = 48; tear();
        promise = 49; count();
        promise = 50; status();
        for (int p = 1; p <= 50; p++) {
            int one = p;
            Edges.edge(0, "a test of promise " + p, () -> due("it", Edges.testsOf(one) > 0 ? 1 : 0, 1));
        }
        Edges.end();
    }

    private static void edge(String words, Runnable body) {
        Edges.edge(promise, words, body);
    }

    private static void due(String call, long got, long want) {
        Edges.due(call, got, want);
    }

    private static LaughTax room(String text) {
        return Rooms.room(text);
    }

    // ---- people, jokes

    private static void newObject() {
        edge("all as at first", () -> {
            LaughTax x = new LaughTax();
            due("told", x.now(0), 0);
            due("treasury", x.now(1), 0);
            due("purses", x.now(2), 0);
            due("moods", x.now(3), 0);
            due("rate", x.now(4), 1);
            due("reach", x.now(5), 2);
            due("z", x.count(6), 1);
        });
        edge("nobody", () -> due("people", new LaughTax().count(1), 0));
        edge("no JOKES", () -> due("jokes", new LaughTax().count(2), 0));
        edge("THE TAPE is empty", () -> due("bytes", new LaughTax().count(5), 0));
        edge("no image is kept", () -> due("undo", new LaughTax().undo(), NONE));
        edge("no finding was answered", () -> due("status", new LaughTax().status(-1), 0));
        edge("another object is another", () -> {
            LaughTax x = Rooms.full();
            LaughTax y = new LaughTax();
            due("people", y.count(1), 0);
            y.law(0, 9);
            due("rate", x.now(4), 1);
        });
    }

    private static void person() {
        for (int k = 0; k <= 6; k++) {
            int kind = k;
            edge("kind " + k, () -> {
                LaughTax x = new LaughTax();
                due("number", x.person(kind, 3), 0);
                due("kind", x.of(0, 0), kind);
            });
        }
        edge("the first and the last SEAT", () -> {
            LaughTax x = new LaughTax();
            due("number", x.person(0, 0), 0);
            due("number", x.person(0, 15), 1);
        });
        edge("numbers 0 to 7", () -> {
            LaughTax x = new LaughTax();
            for (int p = 0; p < 8; p++) {
                due("number", x.person(6, 15), p);
                due("people", x.count(1), p + 1);
            }
        });
        edge("what a TEXT made counts, too", () -> due("number", room("aunt;aunt").person(0, 0), 2));
        edge("one gone by undo() makes room", () -> {
            LaughTax x = room("aunt;aunt;aunt;aunt;aunt;aunt;aunt");
            x.image();
            due("the 8th", x.person(0, 0), 7);
            x.undo();
            due("the 8th again", x.person(1, 3), 7);
            due("seat", x.of(7, 1), 3);
            due("mood", x.of(7, 3), 3);
        });
    }

    private static void of() {
        int[] first = {4, 15, 1, 3, 100, 93, 9, 7};
        for (int w = 0; w <= 7; w++) {
            int what = w;
            edge("what " + w + " of the first and of the last", () -> {
                LaughTax x = new LaughTax();
                for (int p = 0; p < 8; p++) {
                    x.person(4, 15);
                }
                due("of 0", x.of(0, what), first[what]);
                due("of 7", x.of(7, what), first[what]);
            });
        }
    }

    private static void change() {
        int[] most = {6, 15, 63, 9, 9999};
        int[] first = {3, 7, 1, 3, 100};
        for (int w = 0; w < 5; w++) {
            int what = w;
            edge("what " + w + ", the least and the most", () -> {
                LaughTax x = room("aunt;aunt on 7");
                due("to 0", x.change(1, what, 0), first[what]);
                due("to most", x.change(1, what, most[what]), 0);
                due("to most again", x.change(1, what, most[what]), most[what]);
                due("is most", x.of(1, what), most[what]);
                due("the other", x.of(0, what), what == 1 ? 0 : first[what]);
            });
        }
        edge("BOUND and NUMBER are of the new KIND", () -> {
            LaughTax x = room("aunt purse 0");
            x.change(0, 0, 6);
            due("bound", x.of(0, 5), 12);
            due("number", x.of(0, 6), 6);
        });
        edge("who is NEAR is so by the new SEAT", () -> {
            LaughTax x = room("aunt;aunt on 3");
            due("near", x.of(1, 7), 0);
            x.change(0, 1, 1);
            due("near then", x.of(1, 7), 1);
        });
    }

    private static void joke() {
        for (int[] j : new int[][] {{1, 0}, {1, 9}, {63, 0}, {63, 9}, {32, 5}}) {
            edge("topics " + j[0] + ", fun " + j[1], () -> {
                LaughTax x = new LaughTax();
                due("number", x.joke(j[0], j[1]), 0);
                due("topics", x.jokeOf(0, 0), j[0]);
                due("fun", x.jokeOf(0, 1), j[1]);
            });
        }
        edge("numbers 0 to 7", () -> {
            LaughTax x = new LaughTax();
            for (int j = 0; j < 8; j++) {
                due("number", x.joke(1, 1), j);
                due("jokes", x.count(2), j + 1);
            }
        });
    }

    private static void jokeOf() {
        edge("what 0 and 1 of the first and of the last", () -> {
            LaughTax x = Rooms.full();
            due("topics of 0", x.jokeOf(0, 0), 63);
            due("fun of 0", x.jokeOf(0, 1), 1);
            due("topics of 7", x.jokeOf(7, 0), 56);
            due("fun of 7", x.jokeOf(7, 1), 8);
        });
    }

    private static void law() {
        int[] most = {20, 15};
        int[] first = {1, 2};
        for (int w = 0; w < 2; w++) {
            int what = w;
            edge("what " + w + ", the least and the most", () -> {
                LaughTax x = new LaughTax();
                due("to 0", x.law(what, 0), first[what]);
                due("to most", x.law(what, most[what]), 0);
                due("is most", x.now(4 + what), most[what]);
                due("the other", x.now(5 - what), first[1 - what]);
            });
        }
        edge("a RATE above all REACH", () -> {
            LaughTax x = new LaughTax();
            due("to 16", x.law(0, 16), 1);
            due("is 16", x.now(4), 16);
        });
        edge("who is NEAR is so by the new REACH", () -> {
            LaughTax x = room("aunt;aunt on 3");
            due("near", x.of(0, 7), 0);
            x.law(1, 3);
            due("near then", x.of(0, 7), 1);
        });
    }

    private static void strength() {
        edge("what 0, 1 and 2 of the last JOKE to the last one", () -> {
            LaughTax x = new LaughTax();
            for (int i = 0; i < 8; i++) {
                x.person(3, 15);
                x.joke(32, 9);
            }
            x.change(7, 2, 32);
            due("strength", x.strength(7, 7, 0), 12);
            due("seconds", x.strength(7, 7, 1), 29);
            due("due", x.strength(7, 7, 2), 20);
            due("strength to the first", x.strength(7, 0, 0), 3);
        });
        edge("if it LAUGHED: one that doesn't has SECONDS and DUE, too", () -> {
            LaughTax x = room("hearer mood 0;fool;joke 2 9;rate 20");
            due("who", x.laugh(0, 1), 0);
            due("seconds", x.strength(0, 0, 1), 1);
            due("due", x.strength(0, 0, 2), 2);
        });
        edge("DUE is told whatever PURSE and THE TREASURY are", () -> {
            LaughTax x = Rooms.fullTreasury();
            x.change(0, 4, 0);
            due("due", x.strength(0, 0, 2), 910);
        });
    }

    // ---- jokes told

    private static void tell() {
        edge("the last JOKE", () -> {
            LaughTax x = Rooms.full();
            due("who", x.tell(7) & 8, 8);
            due("told", x.now(0), 3);
        });
        edge("nobody LAUGHED", () -> {
            LaughTax x = room("hearer;joke 2 9");
            due("who", x.tell(0), 0);
            due("mood", x.of(0, 3), 2);
            due("treasury", x.now(1), 0);
        });
        edge("all of eight LAUGHED", () -> due("who", Rooms.aunts().tell(0), 255));
        edge("TOLD becomes 99999", () -> {
            LaughTax x = Rooms.told(99998);
            due("who", x.tell(0), 0);
            due("told", x.now(0), 99999);
        });
    }

    private static void evening() {
        for (int n : new int[] {1, 2, 59, 60}) {
            edge("n " + n, () -> {
                LaughTax x = Rooms.payer();
                LaughTax y = Rooms.payer();
                int treasury = x.evening(0, n);
                for (int i = 0; i < n; i++) {
                    y.tell(0);
                }
                due("treasury", treasury, y.now(1));
                due("told", x.now(0), n);
                Edges.alike(x, y);
            });
        }
        edge("TOLD becomes 99999", () -> {
            LaughTax x = Rooms.told(99939);
            due("treasury", x.evening(0, 60), 0);
            due("told", x.now(0), 99999);
        });
        edge("THE TREASURY that was there counts", () -> {
            LaughTax x = Rooms.payer();
            due("first", x.evening(0, 1), 9);
            due("then", x.evening(0, 1), 19);
        });
    }

    private static void now() {
        edge("of nobody", () -> {
            LaughTax x = new LaughTax();
            due("purses", x.now(2), 0);
            due("moods", x.now(3), 0);
        });
        edge("of eight with most", () -> {
            LaughTax x = new LaughTax();
            for (int p = 0; p < 8; p++) {
                x.person(0, 0);
                x.change(p, 3, 9);
                x.change(p, 4, 9999);
            }
            due("purses", x.now(2), 79992);
            due("moods", x.now(3), 72);
        });
        edge("THE TREASURY that is full", () -> due("treasury", Rooms.fullTreasury().now(1), 999999));
    }

    /** THE TREASURY has 9: paid by a fool's neighbour, who has the rest of its PURSE. */
    private static LaughTax nine() {
        LaughTax x = Rooms.payer();
        x.tell(0);
        return x;
    }

    private static void relief() {
        int[][] rows = {{0, 0}, {1, 1}, {8, 8}, {9, 9}, {10, 9}, {9999, 9}};
        for (int[] row : rows) {
            edge(row[0] + " of 9 units", () -> {
                LaughTax x = nine();
                due("came", x.relief(row[0]), row[1]);
                due("treasury", x.now(1), 9 - row[1]);
                due("purses", x.now(2), 191 + row[1]);
            });
        }
        edge("n 9999 of more", () -> {
            LaughTax x = Rooms.fullTreasury();
            for (int p = 0; p < 8; p++) {
                x.change(p, 4, 0);
            }
            due("came", x.relief(9999), 9999);
            due("treasury", x.now(1), 990000);
            for (int p = 0; p < 8; p++) {
                due("purse of " + p, x.of(p, 4), p == 7 ? 1249 : 1250);
            }
        });
        edge("to the one of the least PURSE then", () -> {
            LaughTax x = nine();
            x.person(0, 9);
            x.change(0, 4, 6);
            x.change(1, 4, 5);
            x.change(2, 4, 3);
            due("came", x.relief(6), 6);
            due("purse of 0", x.of(0, 4), 7);
            due("purse of 1", x.of(1, 4), 7);
            due("purse of 2", x.of(2, 4), 6);
        });
        edge("of several the least number", () -> {
            LaughTax x = nine();
            x.change(0, 4, 5);
            x.change(1, 4, 5);
            due("came", x.relief(1), 1);
            due("purse of 0", x.of(0, 4), 6);
        });
        edge("9999 at most", () -> {
            LaughTax x = nine();
            x.change(0, 4, 9999);
            x.change(1, 4, 9997);
            due("came", x.relief(9), 2);
            due("purse of 0", x.of(0, 4), 9999);
            due("purse of 1", x.of(1, 4), 9999);
            due("treasury", x.now(1), 7);
            due("no more", x.relief(1), 0);
            due("treasury yet", x.now(1), 7);
        });
        edge("THE TREASURY is empty", () -> due("came", Rooms.payer().relief(9999), 0));
    }

    // ---- what would be

    private static void laugh() {
        edge("nobody is there", () -> {
            LaughTax x = room("joke 63 9");
            due("by themselves", x.laugh(0, 0), 0);
            due("all", x.laugh(0, 1), 0);
        });
        edge("all of eight", () -> {
            due("by themselves", Rooms.aunts().laugh(0, 0), 255);
            due("all", Rooms.aunts().laugh(0, 1), 255);
        });
        edge("by themselves is without those who catch it", () -> {
            due("by themselves", Rooms.chain().laugh(0, 0), 1);
            due("all", Rooms.chain().laugh(0, 1), 15);
        });
    }

    private static void rounds() {
        edge("nobody is there", () -> due("rounds", room("joke 1 1").rounds(0), 0));
        edge("all LAUGH by themselves", () -> due("rounds", Rooms.aunts().rounds(0), 0));
        edge("none, behind some of another JOKE", () -> {
            LaughTax x = Rooms.chain();
            x.joke(4, 9);
            due("rounds", x.rounds(0), 3);
            due("rounds of the other", x.rounds(1), 0);
        });
        edge("one of eight starts all", () -> {
            LaughTax x = Rooms.aunts();
            for (int p = 1; p < 8; p++) {
                x.change(p, 2, 0);
                x.change(p, 3, 0);
            }
            due("rounds", x.rounds(0), 1);
        });
    }

    private static void raised() {
        edge("nobody is there", () -> due("raised", room("joke 1 1").raised(0), 0));
        edge("all of eight", () -> {
            LaughTax x = Rooms.aunts();
            due("of 100 each", x.raised(0), 800);
            for (int p = 0; p < 8; p++) {
                x.change(p, 4, 9999);
            }
            due("of more", x.raised(0), 7280);
        });
        edge("THE TREASURY can take nothing", () -> due("raised", Rooms.fullTreasury().raised(0), 0));
        edge("what is there already is no part of it", () -> due("raised", nine().raised(0), 10));
    }

    private static void ahead() {
        edge("n 0", () -> due("treasury", nine().ahead(0, 0), 9));
        edge("n 1", () -> due("treasury", nine().ahead(0, 1), 19));
        edge("n 60 as 60 tellings", () -> {
            LaughTax x = Rooms.slow(100);
            due("59", x.ahead(0, 59), 59);
            due("60", x.ahead(0, 60), 60);
        });
        edge("999999 at most", () -> {
            LaughTax x = Rooms.fullTreasury();
            x.relief(3);
            due("treasury", x.ahead(0, 60), 999999);
        });
    }

    private static void stale() {
        edge("0 if nobody LAUGHS now", () -> due("stale", room("hearer mood 7;joke 2 9").stale(0), 0));
        edge("0 if nobody is there", () -> due("stale", room("joke 2 9").stale(0), 0));
        edge("NONE if somebody LAUGHS now", () -> due("stale", room("hearer mood 8;joke 2 9").stale(0), NONE));
        edge("NONE if all are without PURSE", () ->
                due("stale", room("straight mood 8 purse 0;joke 2 9").stale(0), NONE));
    }

    private static void broke() {
        for (int times : new int[] {0, 1, 59, 60}) {
            edge("behind " + times, () -> due("broke", Rooms.slow(times).broke(0, 0), times));
        }
        edge("not behind 60", () -> due("broke", Rooms.slow(61).broke(0, 0), NONE));
        edge("one that never LAUGHS, without PURSE", () -> due("broke", room("fool purse 0;joke 1 1").broke(0, 0), 0));
        edge("THE TREASURY is full", () -> due("broke", Rooms.fullTreasury().broke(0, 7), NONE));
    }

    // ---- catching

    private static void caught() {
        edge("nobody is there", () -> due("caught", new LaughTax().caught(0), 0));
        edge("no one does", () -> due("caught", Rooms.chain().caught(0), 0));
        edge("all do", () -> due("caught", Rooms.chain().caught(15), 15));
        edge("all of eight do", () -> due("caught", Rooms.full().caught(255), 255));
        edge("just a set: others that would do so by themselves don't", () -> {
            LaughTax x = room("hearer mood 9;hearer on 9 mood 9;joke 1 9");
            due("caught", x.caught(1), 1);
        });
        edge("even a fool, if it is in the set", () -> due("caught", room("fool;giggler").caught(1), 3));
    }

    private static void starter() {
        edge("one alone", () -> due("starter", room("fool").starter(), 0));
        edge("of several the least", () -> due("starter", room("giggler;giggler;giggler").starter(), 0));
        edge("the last of eight", () -> {
            LaughTax x = new LaughTax();
            for (int p = 0; p < 7; p++) {
                x.person(4, 0);
            }
            x.change(6, 0, 2);
            x.change(6, 1, 14);
            x.person(4, 15);
            due("starter", x.starter(), 7);
        });
    }

    private static void fewest() {
        edge("nobody is there", () -> due("fewest", new LaughTax().fewest(), 0));
        edge("one alone", () -> due("fewest", room("giggler").fewest(), 1));
        edge("one for eight", () -> due("fewest", Rooms.aunts().fewest(), 1));
        edge("the last of eight", () -> {
            LaughTax x = new LaughTax();
            for (int p = 0; p < 8; p++) {
                x.person(p == 7 ? 4 : 2, 0);
            }
            due("fewest", x.fewest(), 128);
        });
        edge("all of eight", () -> {
            LaughTax x = new LaughTax();
            for (int p = 0; p < 8; p++) {
                x.person(4, 0);
            }
            due("fewest", x.fewest(), 255);
        });
        // on the row: giggler 0, hearer 2, hearer 3, giggler 1; {1, 2} do, and so do {0, 3}, but not {0, 1} or {0, 2}
        edge("of several the least: 6, not 9", () ->
                due("fewest", room("giggler on 1;giggler on 4;hearer on 2;hearer on 3;reach 1").fewest(), 6));
        edge("fewest counts more than least", () -> {
            // 0 and 1 would do as well as 2 alone
            LaughTax x = room("giggler;giggler on 4;fool on 2");
            due("fewest", x.fewest(), 4);
        });
    }

    private static void away() {
        for (int k = 0; k <= 8; k++) {
            int others = k;
            edge("k " + k + " of eight who do so by themselves", () ->
                    due("away", Rooms.aunts().away(0, others), (1 << (8 - others)) - 1));
        }
        edge("nobody is there", () -> due("away", room("joke 1 1").away(0, 0), 0));
        edge("nobody LAUGHS", () -> due("away", room("hearer;joke 2 1").away(0, 0), 0));
        edge("as many as would LAUGH", () -> due("away", Rooms.chain().away(0, 4), 0));
        edge("one fewer", () -> due("away", Rooms.chain().away(0, 3), 1));
        edge("as if they weren't there: they let nobody catch it", () -> {
            LaughTax x = room("giggler on 3 mood 9;giggler taste 2 mood 0;joke 1 9;reach 15");
            due("away", x.away(0, 0), 1);
        });
        // 1 and 3 do so by themselves, 0 catches it from 1, 2 from 3: without {1, 2} or {0, 3} one is left
        edge("of several the least: 6, not 9", () -> {
            LaughTax x = room("giggler on 2 taste 0 mood 0;hearer on 1;giggler on 5 taste 0 mood 0;hearer on 4;"
                    + "reach 1;joke 1 9");
            due("away", x.away(0, 1), 6);
        });
    }

    private static void seatFor() {
        edge("of several the least", () -> due("seat", room("fool on 5;joke 1 1").seatFor(0, 0), 0));
        edge("the last", () ->
                due("seat", room("giggler taste 2 mood 0;giggler mood 0;joke 2 9;reach 14").seatFor(0, 0), 15));
        edge("itself, too", () -> {
            LaughTax x = room("giggler mood 0;hearer on 1 mood 9;joke 4 0");
            due("seat", x.seatFor(0, 0), 4);
        });
        edge("between two who LAUGH", () -> {
            LaughTax x = room("giggler on 9 mood 0;hearer mood 9;hearer on 15 mood 9;reach 6;joke 4 0");
            due("the one SEAT that is near neither", x.seatFor(0, 0), 7);
            x.law(1, 7);
            due("there is none", x.seatFor(0, 0), 0);
        });
        edge("the last of eight", () -> {
            LaughTax x = Rooms.aunts();
            x.change(7, 2, 0);
            x.change(7, 3, 0);
            due("seat", x.seatFor(7, 0), 0);
            for (int p = 0; p < 7; p++) {
                x.change(p, 1, 0);
            }
            due("seat beyond REACH", x.seatFor(7, 0), 3);
        });
    }

    private static void kindFor() {
        edge("KIND 0, of several the least", () -> due("kind", room("fool mood 8;joke 2 9").kindFor(0, 0), 0));
        edge("KIND 0, if none LAUGHS as any", () -> due("kind", room("aunt mood 2;joke 2 9").kindFor(0, 0), 0));
        edge("KIND 2, that catches it from one", () ->
                due("kind", room("fool mood 0;hearer mood 9;joke 2 9").kindFor(0, 0), 2));
        edge("KIND 2, by itself", () -> due("kind", room("fool mood 4;joke 2 9").kindFor(0, 0), 2));
        edge("KIND 3, by itself", () -> due("kind", room("fool mood 3;joke 2 9").kindFor(0, 0), 3));
        edge("the last of eight", () -> {
            LaughTax x = Rooms.aunts();
            x.change(7, 0, 4);
            due("kind", x.kindFor(7, 0), 0);
        });
    }

    private static void reachFor() {
        edge("REACH 0, if all LAUGH by themselves", () ->
                due("reach", room("hearer mood 9;hearer on 15 mood 9;joke 2 0").reachFor(0), 0));
        edge("REACH 0, if nobody is there", () -> due("reach", room("joke 1 1").reachFor(0), 0));
        edge("REACH 0, on one SEAT", () -> due("reach", room("hearer mood 9;giggler mood 0;joke 2 0").reachFor(0), 0));
        edge("REACH 14", () -> due("reach", room("hearer mood 9;giggler on 14 mood 0;joke 2 0").reachFor(0), 14));
        edge("REACH 15", () -> due("reach", room("hearer mood 9;giggler on 15 mood 0;joke 2 0").reachFor(0), 15));
        edge("NONE", () -> due("reach", room("hearer mood 9;hearer mood 0;joke 2 0").reachFor(0), NONE));
        edge("less than it is", () ->
                due("reach", room("hearer mood 9;giggler on 1 mood 0;joke 2 0;reach 9").reachFor(0), 1));
    }

    // ---- laws

    private static void rateFor() {
        edge("RATE 0, if nobody pays", () -> due("rate", room("fool;fool;joke 1 9").rateFor(0, 20), 0));
        edge("RATE 20", () -> due("rate", Rooms.slow(100).rateFor(0, 1), 20));
        edge("of several the least", () -> {
            // two units a time at most, with RATE 20; one from 10 on
            LaughTax x = Rooms.slow(1);
            due("rate", x.rateFor(0, 1), 10);
        });
        edge("n 1 and n 20", () -> {
            LaughTax x = Rooms.slow(20);
            due("n 1", x.rateFor(0, 1), 20);
            due("n 9", x.rateFor(0, 9), 20);
            due("n 10", x.rateFor(0, 10), 20);
            due("n 19", x.rateFor(0, 19), 20);
            due("n 20", x.rateFor(0, 20), 10);
        });
        edge("THE TREASURY is full", () -> due("rate", Rooms.fullTreasury().rateFor(0, 1), 0));
    }

    private static void best() {
        edge("fun 0", () -> due("topics", room("hearer taste 63 mood 7").best(0), 1));
        edge("fun 9", () -> due("topics", room("hearer taste 32 mood 0").best(9), 32));
        edge("all TOPICS", () -> due("topics", room("hearer taste 63 mood 2").best(1), 63));
        edge("nobody is there", () -> due("topics", new LaughTax().best(9), 1));
        edge("of several the least", () -> due("topics", room("hearer taste 20 mood 0").best(9), 4));
        edge("five TOPICS, of several the least", () -> due("topics", room("hearer taste 63 mood 3").best(1), 31));
    }

    private static void quiet() {
        edge("fun 0", () -> due("topics", room("hearer mood 8;hearer mood 8").quiet(0), 1));
        edge("fun 9", () -> due("topics", room("hearer taste 32 mood 0").quiet(9), 32));
        edge("all TOPICS", () -> due("topics", room("hearer taste 63 mood 2").quiet(1), 63));
        edge("somebody yet", () -> due("topics", room("hearer taste 2 mood 0").quiet(9), 2));
        edge("all of eight, if no fewer can be", () -> due("topics", Rooms.aunts().quiet(9), 1));
        edge("NONE", () -> due("topics", room("hearer taste 63 mood 1").quiet(1), NONE));
    }

    private static void safe() {
        edge("FUN 9", () -> due("fun", room("hearer taste 1 mood 0").safe(62), 9));
        edge("FUN 0", () -> due("fun", room("hearer taste 63 mood 7").safe(63), 0));
        edge("NONE", () -> due("fun", room("hearer taste 63 mood 8").safe(63), NONE));
        edge("topics 1", () -> due("fun", room("hearer taste 1 mood 0").safe(1), 7));
        edge("topics 63", () -> due("fun", room("hearer taste 63 mood 0").safe(63), 1));
        edge("nobody is there", () -> due("fun", new LaughTax().safe(63), 9));
    }

    // ---- what was paid

    private static LaughTax paid(int bits, int... numbers) {
        LaughTax x = Rooms.payer();
        Rooms.sheetOf(x, 3, bits, numbers);
        return x;
    }

    private static void tastes() {
        edge("a sheet without numbers", () -> due("tastes", paid(8).tastes(3, 0, 0), 64));
        edge("one number", () -> due("tastes", paid(8, 9).tastes(3, 0, 0), 24));
        edge("-1: any", () -> due("tastes", paid(32, -1).tastes(3, 0, 0), 64));
        edge("-1 of 8 bits", () -> due("tastes", paid(8, 255).tastes(3, 0, 0), 64));
        edge("-1 of 16 bits", () -> due("tastes", paid(16, 65535).tastes(3, 0, 0), 64));
        edge("255 of 16 bits is not any", () -> due("tastes", paid(16, 255).tastes(3, 0, 0), 0));
        edge("-2 is not any", () -> due("tastes", paid(8, -2).tastes(3, 0, 0), 0));
        edge("0: it pays nothing", () -> due("tastes", paid(8, 0).tastes(3, 0, 0), 8));
        edge("40 numbers", () -> {
            // 9, 10, .. 15 (MOOD 9 from then on) are 84 in all: then 15, then the last 1
            int[] numbers = new int[40];
            for (int i = 0; i < 7; i++) {
                numbers[i] = 9 + i;
            }
            numbers[7] = 15;
            numbers[8] = 1;
            due("tastes", paid(8, numbers).tastes(3, 0, 0), 24);
            numbers[39] = 1;
            due("the last one counts", paid(8, numbers).tastes(3, 0, 0), 0);
            numbers[39] = -1;
            due("the last one is any", paid(8, numbers).tastes(3, 0, 0), 24);
        });
        edge("its own TASTE doesn't matter", () -> {
            LaughTax x = paid(8, 9);
            x.change(0, 2, 0);
            due("tastes", x.tastes(3, 0, 0), 24);
        });
    }

    private static void taste() {
        edge("TASTE 0", () -> due("taste", paid(8).taste(3, 0, 0), 0));
        edge("TASTE 63", () -> {
            LaughTax x = paid(8, 9);
            x.joke(63, 1);
            due("taste", x.taste(3, 0, 2), 63);
        });
        edge("the least", () -> due("taste", paid(8, 15).taste(3, 0, 0), 3));
        edge("NONE", () -> due("taste", paid(8, 1).taste(3, 0, 0), NONE));
    }

    private static void which() {
        edge("no JOKES", () -> {
            LaughTax x = new LaughTax();
            x.sheet(0, 8, 1);
            due("which", x.which(0), 0);
        });
        edge("nobody is there: numbers beyond PEOPLE", () -> {
            LaughTax x = room("joke 1 1;joke 1 1");
            Rooms.sheetOf(x, 0, 8, 77, 78);
            due("which", x.which(0), 3);
        });
        edge("a sheet without numbers: those beyond the sheet", () -> due("which", paid(8).which(3), 3));
        edge("numbers beyond PEOPLE: any", () -> due("which", paid(8, 9, 0, 77).which(3), 1));
        edge("the last of PEOPLE is none beyond", () -> due("which", paid(8, 9, 77).which(3), 0));
        edge("-1: any", () -> due("which", paid(8, -1, 0).which(3), 3));
        edge("-2 is not any", () -> due("which", paid(8, -2, 0).which(3), 0));
        edge("all of eight JOKES", () -> due("which", fullSheet().which(0), 255));
        edge("40 numbers for eight", () -> {
            LaughTax x = fullSheet();
            x.write(0, 8, 77);
            x.write(0, 39, 77);
            due("beyond", x.which(0), 255);
            x.write(0, 7, 77);
            due("the 8th", x.which(0), 0);
        });
    }

    /** With RATE 0 nobody pays. */
    private static LaughTax fullSheet() {
        LaughTax x = Rooms.full();
        x.law(0, 0);
        x.sheet(0, 8, 40);
        return x;
    }

    // ---- by draws

    private static void shows() {
        for (int n : new int[] {1, 20}) {
            edge("n " + n, () -> {
                LaughTax x = Rooms.payer();
                LaughTax y = Rooms.payer();
                int z = 1;
                for (int i = 0; i < n; i++) {
                    z = z * 1103515245 + 12345;
                    y.tell((z >>> 8) % 2);
                }
                due("treasury", x.shows(n), y.now(1));
                due("told", x.now(0), n);
                due("z", x.count(6), z);
                y.seed(z);
                Edges.alike(x, y);
            });
        }
        edge("one JOKE takes a draw, too", () -> {
            LaughTax x = room("joke 1 1");
            due("treasury", x.shows(2), 0);
            due("z", x.count(6), -1770082073);
        });
        edge("TOLD becomes 99999", () -> {
            LaughTax x = Rooms.told(99979);
            due("treasury", x.shows(20), 0);
            due("told", x.now(0), 99999);
        });
    }

    /** So many JOKES that let somebody LAUGH, and others. */
    private static LaughTax jokes(int funny, int others) {
        LaughTax x = room("hearer mood 0");
        for (int i = 0; i < funny; i++) {
            x.joke(1, 8);
        }
        for (int i = 0; i < others; i++) {
            x.joke(1, 7);
        }
        return x;
    }

    private static void odds() {
        long[][] rows = {{7, 1, 14, 678223072849L, 4398046511104L}, {1, 7, 14, 1, 4398046511104L},
            {6, 1, 14, 78364164096L, 678223072849L}, {7, 1, 0, 1, 1}, {0, 3, 0, 1, 1}, {0, 3, 1, 0, 1}, {0, 3, 14, 0, 1}, {3, 0, 0, 1, 1}, {3, 0, 14, 1, 1},
            {2, 2, 1, 1, 2}, {4, 4, 14, 1, 16384}, {6, 2, 2, 9, 16}, {2, 4, 3, 1, 27}, {4, 2, 3, 8, 27},
            {1, 0, 1, 1, 1}, {0, 1, 1, 0, 1}};
        for (long[] row : rows) {
            edge(row[0] + " JOKES of " + (row[0] + row[1]) + ", n " + row[2], () -> {
                LaughTax x = jokes((int) row[0], (int) row[1]);
                due("above", x.odds((int) row[2], 0), row[3]);
                due("below", x.odds((int) row[2], 1), row[4]);
            });
        }
        edge("each JOKE as it would be now", () -> {
            // told once, the hearer would laugh at MOOD 8 at all
            LaughTax x = room("hearer mood 7;joke 1 1;joke 2 1");
            due("above", x.odds(2, 0), 1);
            due("below", x.odds(2, 1), 4);
        });
        edge("nobody is there", () -> due("above", room("joke 1 9").odds(1, 0), 0));
    }

    private static void seed() {
        for (int v : new int[] {0, 1, -1, LEAST, MOST, -1000001, -1000007}) {
            edge("v " + v, () -> {
                LaughTax x = new LaughTax();
                due("what it was", x.seed(v), 1);
                due("z", x.count(6), v);
                due("what it was then", x.seed(5), v);
                due("no finding", x.status(-1), 0);
            });
        }
    }

    // ---- texts

    private static void feed() {
        edge("n 1: the lowest byte", () -> {
            LaughTax x = new LaughTax();
            Rooms.put(x, "rate 1");
            due("bytes", x.feed(0x35363738, 1), 7);
            due("text", x.text(), 1);
            due("rate", x.now(4), 18);
        });
        edge("n 2: the highest of these first", () -> {
            LaughTax x = new LaughTax();
            Rooms.put(x, "rate ");
            due("bytes", x.feed(0x39393137, 2), 7);
            due("text", x.text(), 1);
            due("rate", x.now(4), 17);
        });
        edge("n 3: the highest of these first", () -> {
            LaughTax x = new LaughTax();
            Rooms.put(x, "aunt purse ");
            due("bytes", x.feed(0x39373635, 3), 14);
            due("text", x.text(), 1);
            due("purse", x.of(0, 4), 765);
        });
        edge("n 4: the highest of these first", () -> {
            LaughTax x = new LaughTax();
            Rooms.put(x, "aunt purse ");
            due("bytes", x.feed(0x39373635, 4), 15);
            due("text", x.text(), 1);
            due("purse", x.of(0, 4), 9765);
        });
        edge("bytes above 127", () -> {
            LaughTax x = new LaughTax();
            due("bytes", x.feed(-1, 4), 4);
            due("text", x.text(), -1);
        });
        for (int n = 1; n <= 4; n++) {
            int last = n;
            edge("120 bytes, the last " + n + " at once", () -> {
                LaughTax x = new LaughTax();
                for (int i = 0; i < 120 - last; i++) {
                    due("bytes", x.feed(' ', 1), i + 1);
                }
                due("bytes", x.feed(0x20202020, last), 120);
                due("text", x.text(), -121);
            });
        }
    }

    private static void wipe() {
        edge("an empty one", () -> due("had", new LaughTax().wipe(), 0));
        edge("a full one", () -> {
            LaughTax x = Rooms.full();
            due("had", x.wipe(), 120);
            due("bytes", x.count(5), 0);
            due("takes again", x.feed(' ', 1), 1);
        });
        edge("nothing else changes", () -> {
            LaughTax x = Rooms.some();
            LaughTax y = Rooms.some();
            due("had", x.wipe(), 6);
            due("text", y.text(), 1);
            Edges.alike(x, y);
        });
    }

    private static void text() {
        edge("one ITEM", () -> due("items", Rooms.read(new LaughTax(), "aunt"), 1));
        edge("and empty then", () -> {
            LaughTax x = new LaughTax();
            due("items", Rooms.read(x, "aunt;rate 3"), 2);
            due("bytes", x.count(5), 0);
            due("again", x.text(), -1);
        });
        edge("item by item: the last counts", () -> {
            LaughTax x = new LaughTax();
            due("items", Rooms.read(x, "rate 3;reach 4;rate 5;reach 0"), 4);
            due("rate", x.now(4), 5);
            due("reach", x.now(5), 0);
        });
        edge("eight and eight", () -> {
            LaughTax x = new LaughTax();
            due("items", Rooms.read(x, "fool;fool;fool;fool;fool;fool;fool;fool"), 8);
            due("items", Rooms.read(x, "joke1 1;joke1 1;joke1 1;joke1 1;joke1 1;joke1 1;joke1 1;joke32 9"), 8);
            due("people", x.count(1), 8);
            due("jokes", x.count(2), 8);
            due("topics of the last", x.jokeOf(7, 0), 32);
        });
        edge("an empty TAPE", () -> {
            LaughTax x = new LaughTax();
            due("fault", x.text(), -1);
            due("no finding", x.status(-1), 0);
        });
    }

    // ---- spots, sheets

    private static void hold() {
        for (int s : new int[] {0, 9}) {
            edge("spot " + s, () -> {
                LaughTax x = Rooms.full();
                due("the last", x.hold(s, 7), 1);
                due("holds", x.as(s, 0), 7);
                due("the first", x.hold(s, 0), 1);
                due("holds then", x.as(s, 0), 0);
                due("nothing", x.hold(s, -1), 1);
                due("holds nothing", x.as(s, 0), MISSING);
                due("the others", x.count(7), 9);
            });
        }
        edge("nothing, where nothing is", () -> {
            LaughTax x = new LaughTax();
            due("hold", x.hold(4, -1), 1);
            due("spots", x.count(7), 0);
        });
        edge("one on all SPOTS", () -> {
            LaughTax x = room("aunt");
            for (int s = 0; s < 10; s++) {
                due("hold", x.hold(s, 0), 1);
            }
            due("spots", x.count(7), 10);
        });
    }

    private static void as() {
        int[] under = {127, 2 + 64, 4 + 8 + 16, 8 + 16, 16, 32, 64};
        for (int k = 0; k < 7; k++) {
            for (int q = 0; q < 7; q++) {
                int kind = k;
                int own = q;
                edge("one of kind " + q + " as kind " + k, () -> {
                    LaughTax x = new LaughTax();
                    x.person(own, 0);
                    x.hold(9, 0);
                    due("as", x.as(9, kind), (under[kind] >> own & 1) == 1 ? 0 : Edges.KIND);
                });
            }
        }
        edge("it is what it has become", () -> {
            LaughTax x = room("hearer");
            x.hold(0, 0);
            x.change(0, 0, 4);
            due("as an aunt", x.as(0, 3), 0);
        });
    }

    private static void sheet() {
        for (int bits : new int[] {8, 16, 32}) {
            for (int n : new int[] {0, 1, 40}) {
                edge("bits " + bits + ", n " + n, () -> {
                    LaughTax x = new LaughTax();
                    for (int s = 0; s < 4; s++) {
                        due("sheet", x.sheet(s, bits, n), n);
                        due("length", Edges.lengthOf(x, s), n);
                    }
                });
            }
        }
        for (int n : new int[] {0, 1, 40}) {
            edge("bits 0, n " + n, () -> {
                LaughTax x = Rooms.full();
                due("sheet", x.sheet(3, 0, n), 0);
                due("load", x.load(3), MISSING);
                due("another", x.load(2), 8);
            });
        }
        edge("it is MISSING and stays so", () -> due("sheet", new LaughTax().sheet(0, 0, 0), 0));
        edge("all 0, behind other numbers", () -> {
            LaughTax x = room("aunt;aunt");
            Rooms.sheetOf(x, 0, 8, 7, 7);
            due("sheet", x.sheet(0, 8, 2), 2);
            due("load", x.load(0), 2);
            due("seats", x.of(0, 1) + x.of(1, 1), 0);
        });
        edge("all 0, behind a shorter one and MISSING", () -> {
            LaughTax x = room("aunt;aunt");
            Rooms.sheetOf(x, 0, 8, 7, 7);
            x.sheet(0, 8, 1);
            x.sheet(0, 0, 0);
            x.sheet(0, 16, 2);
            due("load", x.load(0), 2);
            due("seats", x.of(0, 1) + x.of(1, 1), 0);
        });
    }

    /** The SEAT that the number is, or -1 if it is none. */
    private static void lowest(int bits, int v, int seat) {
        edge("lowest " + bits + " bits of " + v, () -> {
            LaughTax x = room("aunt on 9");
            x.sheet(0, bits, 1);
            due("write", x.write(0, 0, v), 1);
            due("load", x.load(0), seat < 0 ? 0 : 1);
            due("seat", x.of(0, 1), seat < 0 ? 9 : seat);
        });
    }

    private static void write() {
        for (int i : new int[] {0, 39}) {
            edge("number " + i + " of 40", () -> {
                LaughTax x = Rooms.full();
                due("write", x.write(1, i, 11), 1);
                due("to the front", x.copy(1, i, 1, 0, 1), 1);
                due("load", x.load(1), 8);
                due("seat", x.of(0, 1), 11);
            });
        }
        lowest(8, 255, -1);
        lowest(8, 256, 0);
        lowest(8, 271, 15);
        lowest(8, 272, -1);
        lowest(8, -256, 0);
        lowest(8, -241, 15);
        lowest(8, 128, -1);
        lowest(8, LEAST, 0);
        lowest(8, MOST, -1);
        lowest(16, 256, -1);
        lowest(16, 65535, -1);
        lowest(16, 65536, 0);
        lowest(16, 65551, 15);
        lowest(16, 65552, -1);
        lowest(16, -65536, 0);
        lowest(16, LEAST, 0);
        lowest(32, 65536, -1);
        lowest(32, 16777216, -1);
        lowest(32, LEAST, -1);
        lowest(32, MOST, -1);
        lowest(32, 15, 15);
        edge("8 bits have a sign: 127 and 128", () -> {
            LaughTax x = Rooms.aunts();
            for (int p = 0; p < 8; p++) {
                x.change(p, 4, p == 0 ? 127 : 128);
            }
            Rooms.sheetOf(x, 0, 8, 127);
            due("127 is paid", x.which(0), 1);
            Rooms.sheetOf(x, 0, 8, 127, 128);
            due("128 is -128, which nobody pays", x.which(0), 0);
            Rooms.sheetOf(x, 0, 16, 127, 128);
            due("of 16 bits it is 128", x.which(0), 1);
        });
    }

    private static LaughTax six() {
        LaughTax x = room("fool;fool;fool;fool;fool;fool");
        Rooms.sheetOf(x, 0, 8, 1, 2, 3, 4, 5, 6);
        Rooms.sheetOf(x, 1, 8, 11, 12, 13, 14, 15, 10);
        return x;
    }

    private static void holds(LaughTax x, int s, int... numbers) {
        due("load", x.load(s), numbers.length);
        for (int p = 0; p < numbers.length; p++) {
            due("number " + p, x.of(p, 1), numbers[p]);
        }
    }

    private static void copy() {
        edge("all", () -> {
            LaughTax x = six();
            due("copy", x.copy(0, 0, 1, 0, 6), 6);
            holds(x, 1, 1, 2, 3, 4, 5, 6);
            holds(x, 0, 1, 2, 3, 4, 5, 6);
        });
        edge("the last to the first", () -> {
            LaughTax x = six();
            due("copy", x.copy(0, 5, 1, 0, 1), 1);
            holds(x, 1, 6, 12, 13, 14, 15, 10);
        });
        edge("the first to the last", () -> {
            LaughTax x = six();
            due("copy", x.copy(0, 0, 1, 5, 1), 1);
            holds(x, 1, 11, 12, 13, 14, 15, 1);
        });
        edge("none, from behind the last to behind the last", () -> {
            LaughTax x = six();
            due("copy", x.copy(0, 6, 1, 6, 0), 0);
            holds(x, 1, 11, 12, 13, 14, 15, 10);
        });
        edge("as they all were, upwards on one sheet", () -> {
            LaughTax x = six();
            due("copy", x.copy(0, 0, 0, 1, 5), 5);
            holds(x, 0, 1, 1, 2, 3, 4, 5);
        });
        edge("as they all were, downwards on one sheet", () -> {
            LaughTax x = six();
            due("copy", x.copy(0, 1, 0, 0, 5), 5);
            holds(x, 0, 2, 3, 4, 5, 6, 6);
        });
        edge("onto themselves", () -> {
            LaughTax x = six();
            due("copy", x.copy(0, 0, 0, 0, 6), 6);
            holds(x, 0, 1, 2, 3, 4, 5, 6);
        });
        edge("40 of 40", () -> {
            LaughTax x = Rooms.full();
            due("copy", x.copy(1, 0, 2, 0, 40), 40);
            due("to the front", x.copy(2, 39, 2, 0, 1), 1);
            holds(x, 2, 1, 0, 0, 0, 0, 0, 0, 0);
        });
        edge("sheets without numbers", () -> {
            LaughTax x = new LaughTax();
            x.sheet(0, 8, 0);
            x.sheet(3, 8, 0);
            due("copy", x.copy(0, 0, 3, 0, 0), 0);
        });
    }

    private static LaughTax three(int... numbers) {
        LaughTax x = room("fool on 9;fool on 9;fool on 9");
        Rooms.sheetOf(x, 0, 32, numbers);
        return x;
    }

    private static void loads(String words, int came, int[] numbers, int... seats) {
        edge(words, () -> {
            LaughTax x = three(numbers);
            due("load", x.load(0), came);
            for (int p = 0; p < 3; p++) {
                due("seat of " + p, x.of(p, 1), seats[p]);
            }
        });
    }

    private static void load() {
        loads("SEATS 0 and 15", 3, new int[] {0, 15, 0}, 0, 15, 0);
        loads("it ends at 16", 1, new int[] {3, 16, 4}, 3, 9, 9);
        loads("it ends at -1", 1, new int[] {3, -1, 4}, 3, 9, 9);
        loads("it ends at the first", 0, new int[] {16, 3, 4}, 9, 9, 9);
        loads("it ends at the last", 2, new int[] {3, 4, 16}, 3, 4, 9);
        loads("for which there is nobody", 3, new int[] {3, 4, 5, 6}, 3, 4, 5);
        loads("fewer numbers", 2, new int[] {3, 4}, 3, 4, 9);
        loads("no numbers", 0, new int[0], 9, 9, 9);
        loads("far off", 0, new int[] {LEAST, MOST}, 9, 9, 9);
        edge("nobody is there", () -> {
            LaughTax x = new LaughTax();
            x.sheet(0, 8, 40);
            due("load", x.load(0), 0);
        });
        edge("40 numbers for eight", () -> due("load", Rooms.full().load(0), 8));
        edge("who is NEAR is so by the new SEATS", () -> {
            LaughTax x = three(0, 2, 4);
            x.load(0);
            due("near 0", x.of(0, 7), 1);
            due("near 1", x.of(1, 7), 2);
        });
    }

    private static void judges(String words, int want, int... numbers) {
        edge(words, () -> {
            LaughTax x = Rooms.chain();
            x.person(4, 0);
            Rooms.sheetOf(x, 0, 32, numbers);
            due("judge", x.judge(0), want);
        });
    }

    private static void judge() {
        judges("no numbers", 0);
        judges("all in their order", 0, 0, 1, 2, 3);
        judges("just the last", 0, 3);
        judges("the first isn't one of PEOPLE", 1, 5, 0);
        judges("one below PEOPLE", 2, 0, -1);
        judges("one far below", 2, 0, LEAST);
        judges("one far above", 2, 0, MOST);
        judges("one that is 32 more", 2, 0, 33);
        judges("one that doesn't LAUGH", 2, 0, 4);
        judges("one twice", 2, 0, 0);
        judges("one twice, farther on", 4, 0, 1, 2, 0);
        judges("an earlier one behind", 2, 1, 0);
        judges("an earlier one as the last", 4, 0, 1, 3, 2);
        edge("the first of PEOPLE in a later round", () -> {
            LaughTax x = room("giggler mood 0;hearer mood 9;joke 2 0");
            Rooms.sheetOf(x, 0, 8, 0, 1);
            due("ahead of one that is earlier", x.judge(0), 2);
            Rooms.sheetOf(x, 0, 8, 1, 0);
            due("behind it", x.judge(0), 0);
        });
        edge("one that caught it, and now does so by itself", () -> {
            LaughTax x = room("giggler mood 0;hearer mood 9;joke 2 0");
            Rooms.sheetOf(x, 0, 8, 1, 0);
            due("in round 1", x.judge(0), 0);
            x.change(0, 3, 9);
            Rooms.sheetOf(x, 0, 8, 0, 1);
            due("by itself", x.judge(0), 0);
        });
        edge("eight, and one twice", () -> {
            LaughTax x = Rooms.aunts();
            Rooms.sheetOf(x, 0, 8, 7, 6, 5, 4, 3, 2, 1, 0);
            due("judge", x.judge(0), 0);
            Rooms.sheetOf(x, 0, 8, 7, 6, 5, 4, 3, 2, 1, 0, 7);
            due("judge", x.judge(0), 9);
        });
        edge("no earlier: in one round is fine", () -> {
            LaughTax x = Rooms.chain();
            x.law(1, 15);
            Rooms.sheetOf(x, 0, 8, 0, 3, 1, 2);
            due("judge", x.judge(0), 0);
        });
        edge("JOKE 0 alone is asked", () -> {
            LaughTax x = room("hearer mood 0;joke 2 9;joke 1 9");
            Rooms.sheetOf(x, 0, 8, 0);
            due("judge", x.judge(0), 1);
        });
        edge("nobody is there", () -> {
            LaughTax x = room("joke 1 1");
            x.sheet(0, 8, 1);
            due("judge", x.judge(0), 1);
        });
    }

    // ---- images

    private static void image() {
        edge("1, and 1 again", () -> {
            LaughTax x = new LaughTax();
            due("image", x.image(), 1);
            due("image", x.image(), 1);
        });
        edge("of a new object", () -> {
            LaughTax x = new LaughTax();
            x.image();
            x.person(0, 0);
            x.joke(1, 1);
            x.seed(9);
            due("told", x.undo(), 0);
            Edges.alike(x, imageOfNew());
        });
        edge("THE TAPE and SHEETS are not kept", () -> {
            LaughTax x = Rooms.some();
            x.image();
            x.wipe();
            x.feed(' ', 1);
            x.sheet(0, 0, 0);
            x.sheet(3, 8, 7);
            x.undo();
            due("bytes", x.count(5), 1);
            due("sheet 0", x.load(0), MISSING);
            due("sheet 3", Edges.lengthOf(x, 3), 7);
        });
        edge("nothing else changes", () -> {
            LaughTax x = Rooms.some();
            LaughTax y = Rooms.some();
            x.image();
            y.image();
            x.image();
            Edges.alike(x, y);
        });
    }

    private static LaughTax imageOfNew() {
        LaughTax x = new LaughTax();
        x.image();
        return x;
    }

    private static void undo() {
        edge("it stays", () -> {
            LaughTax x = Rooms.some();
            due("undo", x.undo(), 2);
            x.evening(0, 9);
            due("undo again", x.undo(), 2);
        });
        edge("what was kept latest", () -> {
            LaughTax x = Rooms.some();
            x.image();
            x.tell(0);
            due("undo", x.undo(), 5);
        });
        edge("it becomes what was kept, at once", () -> {
            LaughTax x = Rooms.some();
            LaughTax y = Rooms.some();
            x.image();
            y.image();
            x.tell(0);
            x.person(0, 0);
            x.joke(3, 3);
            x.law(0, 20);
            x.law(1, 15);
            x.seed(8);
            x.shows(3);
            x.relief(9);
            x.hold(5, 0);
            x.hold(0, -1);
            for (int what = 0; what < 5; what++) {
                x.change(2, what, 2);
            }
            due("undo", x.undo(), 5);
            Edges.alike(x, y);
        });
        edge("findings are not taken back", () -> {
            LaughTax x = Rooms.some();
            x.tell(99);
            x.undo();
            due("status", x.status(-1), 3);
        });
    }

    private static void tear() {
        edge("nothing was kept", () -> due("tear", new LaughTax().tear(), 0));
        edge("something was", () -> {
            LaughTax x = Rooms.some();
            due("tear", x.tear(), 1);
            due("again", x.tear(), 0);
            due("undo", x.undo(), NONE);
        });
        edge("kept anew", () -> {
            LaughTax x = Rooms.some();
            x.tear();
            x.image();
            due("undo", x.undo(), 5);
            due("tear", x.tear(), 1);
        });
        edge("nothing else changes", () -> {
            LaughTax x = Rooms.some();
            LaughTax y = Rooms.some();
            x.tear();
            x.image();
            y.image();
            Edges.alike(x, y);
        });
    }

    private static void count() {
        int[] none = {0, 0, 0, 0, 0, 0, 1, 0};
        int[] most = {2, 8, 8, -1, -1, 120, 1, 10};
        for (int w = 0; w < 8; w++) {
            int what = w;
            edge("what " + w + " of nothing", () -> due("count", new LaughTax().count(what), none[what]));
            if (most[w] >= 0) {
                edge("what " + w + " of a full one", () -> due("count", Rooms.full().count(what), most[what]));
            }
        }
        edge("THE TREASURY that is full", () -> due("count", Rooms.fullTreasury().count(3), 999999));
        edge("PURSES of eight with most", () -> {
            LaughTax x = Rooms.aunts();
            for (int p = 0; p < 8; p++) {
                x.change(p, 4, 9999);
            }
            due("count", x.count(4), 79992);
        });
    }

    private static void status() {
        edge("each finding for itself, and all", () -> {
            LaughTax x = new LaughTax();
            x.tell(0);
            x.status(7);
            for (int p = 0; p < 11; p++) {
                x.person(0, 0);
            }
            x.hold(0, 0);
            x.as(0, 1);
            x.as(0, 2);
            x.as(0, 3);
            x.as(0, 4);
            x.undo();
            x.shows(1);
            x.shows(2);
            x.shows(3);
            x.shows(4);
            x.shows(5);
            x.load(0);
            x.load(1);
            x.load(2);
            x.load(3);
            x.write(0, 0, 0);
            x.write(1, 0, 0);
            for (int i = 0; i < 7; i++) {
                x.sheet(0, 8, -1);
            }
            int[] want = {28, 2, 3, 4, 1, 5, 6, 7};
            for (int which = -1; which <= 6; which++) {
                due("status " + which, x.status(which), want[which + 1]);
            }
        });
        edge("its own BEYOND is counted from then on", () -> {
            LaughTax x = new LaughTax();
            due("status", x.status(7), Edges.BEYOND);
            due("beyond", x.status(0), 1);
            due("all", x.status(-1), 1);
            due("status", x.status(-2), Edges.BEYOND);
            due("beyond", x.status(0), 2);
        });
        edge("findings in longs are counted", () -> {
            LaughTax x = new LaughTax();
            x.odds(15, 0);
            x.odds(0, 0);
            due("beyond", x.status(0), 1);
            due("none", x.status(3), 1);
        });
        edge("a FAULT is none", () -> {
            LaughTax x = new LaughTax();
            x.text();
            due("all", x.status(-1), 0);
        });
        edge("500 findings", () -> {
            LaughTax x = new LaughTax();
            for (int i = 0; i < 500; i++) {
                x.undo();
            }
            due("none", x.status(3), 500);
            due("all", x.status(-1), 500);
        });
    }
}
