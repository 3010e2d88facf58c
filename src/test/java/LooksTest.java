import java.util.function.Supplier;
import java.util.function.ToLongFunction;

/** Acts that only look: their answer in a room with something of everything, and that nothing has changed behind it. */
public final class LooksTest {
    private static final Supplier<LaughTax> SOME = Rooms::some;
    private static final Supplier<LaughTax> FILLED = Rooms::full;

    public static void main(String[] args) {
        someRoom();
        wouldBe();
        catching();
        laws();
        spotsAndSheets();
        faults();
        Edges.end();
    }

    private static void looks(int promise, String call, ToLongFunction<LaughTax> act, long want) {
        Edges.looks(promise, call, SOME, act, want);
    }

    /** Its numbers, told once, as the other rows rest on them. */
    private static void someRoom() {
        int[][] people = {{0, 0, 9, 9, 80, 8, 2, 2}, {6, 2, 1, 0, 0, 12, 6, 3}, {3, 15, 1, 8, 77, 3, 1, 0},
            {5, 2, 1, 8, 84, 5, 1, 3}, {4, 7, 1, 0, 100, 93, 9, 2}};
        for (int p = 0; p < 5; p++) {
            for (int w = 0; w < 8; w++) {
                int person = p;
                int what = w;
                looks(3, "of " + p + ", " + w, x -> x.of(person, what), people[p][w]);
            }
        }
        int[] now = {5, 36, 341, 25, 1, 5};
        for (int w = 0; w < 6; w++) {
            int what = w;
            looks(11, "now " + w, x -> x.now(what), now[w]);
        }
        int[] count = {5, 5, 3, 36, 341, 6, -5, 3};
        for (int w = 0; w < 8; w++) {
            int what = w;
            looks(49, "count " + w, x -> x.count(what), count[w]);
        }
        int[] status = {2, 1, 0, 0, 0, 0, 1, 0};
        for (int w = -1; w <= 6; w++) {
            int which = w;
            looks(50, "status " + w, x -> x.status(which), status[w + 1]);
        }
        int[][] jokes = {{9, 3}, {63, 1}, {1, 9}};
        for (int j = 0; j < 3; j++) {
            int joke = j;
            looks(6, "topics of " + j, x -> x.jokeOf(joke, 0), jokes[j][0]);
            looks(6, "fun of " + j, x -> x.jokeOf(joke, 1), jokes[j][1]);
        }
    }

    private static void wouldBe() {
        looks(8, "strength", x -> x.strength(0, 0, 0), 15);
        looks(8, "seconds", x -> x.strength(0, 0, 1), 15);
        looks(8, "due", x -> x.strength(0, 0, 2), 3);
        looks(13, "by themselves", x -> x.laugh(0, 0), 1 + 4 + 8);
        looks(13, "all", x -> x.laugh(2, 1), 1 + 4 + 8);
        looks(14, "no rounds", x -> x.rounds(0), 0);
        Edges.looks(14, "three rounds", Rooms::chain, x -> x.rounds(0), 3);
        looks(15, "raised", x -> x.raised(0), 3 + 3);
        looks(16, "none ahead", x -> x.ahead(0, 0), 36);
        looks(16, "one ahead", x -> x.ahead(0, 1), 36 + 6);
        looks(16, "sixty ahead", x -> x.ahead(0, 60), 36 + 80 + 84);
        Edges.looks(17, "nobody laughs", () -> Rooms.room("hearer;joke 2 9"), x -> x.stale(0), 0);
        looks(18, "broke now", x -> x.broke(0, 1), 0);
        looks(18, "broke by and by", x -> x.broke(0, 0), 27);
    }

    private static void catching() {
        looks(19, "from one", x -> x.caught(8), 8);
        looks(19, "from two", x -> x.caught(10), 11);
        looks(20, "starter", LaughTax::starter, 1);
        looks(21, "fewest", LaughTax::fewest, 2 + 4 + 16);
        looks(22, "away", x -> x.away(0, 1), 5);
        looks(23, "a seat", x -> x.seatFor(3, 0), 0);
        looks(24, "a kind", x -> x.kindFor(4, 0), 2);
        Edges.looks(25, "a reach", Rooms::chain, x -> x.reachFor(0), 2);
    }

    private static void laws() {
        looks(26, "a rate", x -> x.rateFor(0, 20), 2);
        looks(27, "the most", x -> x.best(9), 1);
        looks(28, "the fewest", x -> x.quiet(0), 1);
        Edges.looks(29, "the greatest fun", Rooms::chain, x -> x.safe(2), 3);
        Edges.looks(30, "how many tastes", LooksTest::paid, x -> x.tastes(0, 0, 0), 24);
        Edges.looks(31, "the least taste", LooksTest::paid, x -> x.taste(0, 0, 0), 1);
        Edges.looks(32, "which jokes", LooksTest::paid, x -> x.which(0), 1);
        looks(34, "above", x -> x.odds(2, 0), 1);
        Edges.looks(34, "below", FILLED, x -> x.odds(14, 1), 1);
    }

    private static LaughTax paid() {
        LaughTax x = Rooms.payer();
        Rooms.sheetOf(x, 0, 8, 9, -1);
        return x;
    }

    private static void spotsAndSheets() {
        looks(40, "an inspector as it is", x -> x.as(0, 6), 1);
        looks(40, "an inspector as a straight one", x -> x.as(0, 1), 1);
        looks(40, "a fool as an aunt", x -> x.as(9, 3), 4);
        looks(43, "none", x -> x.copy(0, 5, 2, 3, 0), 0);
        looks(45, "the first isn't so", x -> x.judge(0), 1);
        looks(45, "the last isn't so", x -> x.judge(2), 1);
    }

    /** "nothing changes but that THE TAPE is empty; no finding" */
    private static void faults() {
        String[] texts = {"?", "1;rate", "; rate 3;", "1;rate 3;reach 4;aunt on 9;joke 1 1;",
            "1;reach 4;joke 1 0;king"};
        int[] places = {6, 12, 15, 42, 25};
        for (int i = 0; i < texts.length; i++) {
            String text = texts[i];
            int place = places[i];
            Edges.edge(38, "FAULT of 'rate 1" + text + "'", () -> {
                LaughTax x = Rooms.some();
                LaughTax twin = Rooms.some();
                Rooms.put(x, text);
                twin.wipe();
                Edges.due("it", x.text(), -1 - place);
                Edges.due("findings", x.status(-1), twin.status(-1));
                Edges.alike(x, twin);
            });
        }
    }
}
