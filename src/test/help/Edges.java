import java.util.ArrayList;
import java.util.List;
import java.util.TreeMap;
import java.util.TreeSet;
import java.util.function.Supplier;
import java.util.function.ToLongFunction;

/** Tests by promise and name, calls that are refused, and a look at all that an object shows. */
final class Edges {
    static final int BEYOND = -1000001;
    static final int FULL = -1000002;
    static final int KIND = -1000003;
    static final int NONE = -1000004;
    static final int STATE = -1000005;
    static final int MISSING = -1000006;
    static final int SIZE = -1000007;
    static final int LEAST = Integer.MIN_VALUE;
    static final int MOST = Integer.MAX_VALUE;

    /** Promise 0 stands for the document's terms. */
    private static final int PROMISES = 51;
    private static final TreeMap<Integer, TreeSet<Integer>> FINDINGS = new TreeMap<>();
    private static final int[] TESTS = new int[PROMISES];
    private static int wrong = 0;
    private static String test = "";

    private Edges() {
    }

    static void edge(int promise, String words, Runnable body) {
        test = "promise " + promise + ", " + words;
        TESTS[promise]++;
        try {
            body.run();
        } catch (RuntimeException e) {
            fail("threw " + e);
        }
    }

    static void due(String call, long got, long want) {
        if (got != want) {
            fail(call + " answered " + got + ", due is " + want);
        }
    }

    private static void fail(String what) {
        wrong++;
        System.out.println(test + ": " + what);
    }

    /** The finding is answered and counted, and nothing else is other than in a twin that wasn't asked. */
    static void refused(int promise, String call, Supplier<LaughTax> maker, ToLongFunction<LaughTax> act, int finding) {
        FINDINGS.computeIfAbsent(promise, p -> new TreeSet<>()).add(finding);
        edge(promise, "refused: " + call, () -> {
            LaughTax x = maker.get();
            LaughTax twin = maker.get();
            due("it", act.applyAsLong(x), finding);
            for (int which = -1; which <= 6; which++) {
                int more = which == -1 || which == BEYOND - finding ? 1 : 0;
                due("status " + which, x.status(which), twin.status(which) + more);
            }
            alike(x, twin);
        });
    }

    /** The answer is as due, no finding is counted, and nothing is other than in a twin that wasn't asked. */
    static void looks(int promise, String call, Supplier<LaughTax> maker, ToLongFunction<LaughTax> act, long want) {
        edge(promise, "changes nothing: " + call, () -> {
            LaughTax x = maker.get();
            LaughTax twin = maker.get();
            due("it", act.applyAsLong(x), want);
            for (int which = -1; which <= 6; which++) {
                due("status " + which, x.status(which), twin.status(which));
            }
            alike(x, twin);
        });
    }

    static void alike(LaughTax x, LaughTax twin) {
        List<String> got = look(x);
        List<String> want = look(twin);
        for (int i = 0; i < Math.max(got.size(), want.size()); i++) {
            String one = i < got.size() ? got.get(i) : "nothing";
            String other = i < want.size() ? want.get(i) : "nothing";
            if (!one.equals(other)) {
                fail("it is " + one + ", due is " + other);
                return;
            }
        }
    }

    /** All but status(), by calls alone, so that the object is spent behind it. */
    private static List<String> look(LaughTax x) {
        List<String> seen = new ArrayList<>();
        lookAtRoom(x, "now", seen);
        seen.add("text " + x.text() + ", rate " + x.now(4) + ", people " + x.count(1) + ", jokes " + x.count(2));
        lookAtSheets(x, seen);
        seen.add("undo " + x.undo());
        lookAtRoom(x, "kept", seen);
        return seen;
    }

    private static void lookAtRoom(LaughTax x, String when, List<String> seen) {
        for (int what = 0; what < 8; what++) {
            seen.add(when + ", count " + what + ": " + x.count(what));
        }
        seen.add(when + ", rate " + x.now(4) + ", reach " + x.now(5));
        int people = x.count(1);
        for (int p = 0; p < people; p++) {
            for (int what = 0; what < 5; what++) {
                seen.add(when + ", of " + p + ", " + what + ": " + x.of(p, what));
            }
            seen.add(when + ", near " + p + ": " + x.of(p, 7));
        }
        int jokes = x.count(2);
        for (int j = 0; j < jokes; j++) {
            seen.add(when + ", joke " + j + ": " + x.jokeOf(j, 0) + ", " + x.jokeOf(j, 1));
        }
        for (int spot = 0; spot < 10; spot++) {
            seen.add(when + ", spot " + spot + ": " + x.as(spot, 0));
        }
    }

    private static void lookAtSheets(LaughTax x, List<String> seen) {
        for (int people = x.count(1); people < 8; people++) {
            x.person(0, 0);
        }
        // the numbers first, as what follows asks for what is refused, too
        for (int s = 0; s < 4; s++) {
            lookAtNumbers(x, s, 8, seen);
        }
        for (int s = 0; s < 4; s++) {
            for (int t = s + 1; t < 4; t++) {
                seen.add("bits of sheets " + s + " and " + t + ": " + x.copy(s, 0, t, 0, 0));
            }
        }
        for (int s = 0; s < 4; s++) {
            int length = lengthOf(x, s);
            seen.add("sheet " + s + ": " + length);
            if (length > 8) {
                x.copy(s, length - 1, s, 0, 1);
                lookAtNumbers(x, s, 1, seen);
            }
        }
        for (int bits = 8; bits <= 16; bits += 8) {
            x.sheet(3, bits, 0);
            for (int s = 0; s < 3; s++) {
                seen.add("sheet " + s + " of " + bits + " bits: " + x.copy(s, 0, 3, 0, 0));
            }
        }
    }

    private static void lookAtNumbers(LaughTax x, int s, int n, List<String> seen) {
        seen.add("loads of " + s + ": " + x.load(s));
        for (int p = 0; p < n; p++) {
            seen.add("sheet " + s + ", number " + p + ": " + x.of(p, 1));
        }
    }

    /** -1 if it is MISSING. */
    static int lengthOf(LaughTax x, int s) {
        if (x.copy(s, 0, s, 0, 0) == MISSING) {
            return -1;
        }
        int length = 0;
        for (int step = 32; step > 0; step /= 2) {
            if (x.copy(s, 0, s, 0, length + step) == length + step) {
                length += step;
            }
        }
        return length;
    }

    /** Which findings have been refused with, by promise. */
    static TreeMap<Integer, TreeSet<Integer>> findings() {
        return FINDINGS;
    }

    static int testsOf(int promise) {
        return TESTS[promise];
    }

    static void end() {
        int all = 0;
        for (int tests : TESTS) {
            all += tests;
        }
        System.out.println(all + " tests, " + (wrong == 0 ? "all as due" : wrong + " answers are not as due"));
        if (wrong != 0) {
            System.exit(1);
        }
    }
}
