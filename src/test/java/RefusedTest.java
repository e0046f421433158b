import java.util.function.Supplier;

/**
 * Each call that is refused: with what answer, which one comes first where two meet, and that it leaves everything as
 * it was. So do calls that only tell, and changes that are none.
 */
public final class RefusedTest {
    private static final int BAD = -1, NOT = -2, FULL = -3, STATE = -5;
    private static final int NOTHING = -11, KIND = -12, PLACE = -13, SIZE = -14;
    private static final long NO_ELEMENT = Long.MIN_VALUE;
    private static final long LEAST = Integer.MIN_VALUE, MOST = Integer.MAX_VALUE;
    private static final Due due = new Due();

    public static void main(String[] args) {
        theRichBazaarIsRich();
        comingIsRefused();
        numbersAreRefused();
        feelingsAreRefused();
        theTapeRefuses();
        todayIsRefused();
        daysInThoughtAreRefused();
        daysSeenAreRefused();
        playsAndDrawsAreRefused();
        deedsAreRefused();
        leasesAreRefused();
        stepsAreRefused();
        needlesAreRefused();
        shelvesAreRefused();
        elementsAreRefused();
        shiftsAreRefused();
        sameNumbersAreNoChanges();
        tellingLeavesAll();
        due.end();
    }

    // ---- bazaars

    private static ScalesByHate empty() {
        return new ScalesByHate();
    }

    private static ScalesByHate alone() {
        return Bazaars.of(1);
    }

    /**
     * Four people who eat, a law, a begun tape, an image, a tale, a trace, changes both ways. On the shelves: 0 bytes,
     * 1 ints, 2 booleans, 3 a needle, 4 nothing, 5 longs.
     */
    private static ScalesByHate rich() {
        ScalesByHate x = new ScalesByHate();
        int[][] people = {{20, 5}, {35, 3}, {50, 9}, {50, 0}};
        for (int[] one : people) {
            x.person(one[0], one[1]);
        }
        int[][] feelings = {{1, -5}, {2, 4}, {3, 8}, {10, -6}, {12, -7}, {13, 7}, {20, 6}, {21, 8}, {23, -9}, {30, 5},
            {31, -4}, {32, 1}};
        for (int[] felt : feelings) {
            x.feel(felt[0], felt[1]);
        }
        Bazaars.law(x, "hunger/3+want");
        x.mend(0, 3, 4);
        x.day();
        x.image();
        x.wrong(3, 2);
        x.lease(31, 2);
        x.gift(13, 4);
        x.day();
        for (int kind = 0; kind < 8; kind++) {
            x.body(kind);
        }
        x.act(7, 3, 1);
        Bazaars.bytes(x, 0, 1, 2, 9, 8);
        x.row(1, 2, 3);
        x.put(1, 0, 70000);
        x.row(2, 4, 2);
        x.put(2, 1, 1);
        x.keep(3, 7);
        x.row(5, 3, 2);
        x.put(5, 1, 1L << 40);
        x.mend(1, 0, 77);
        x.mend(2, 1, 1);
        x.feel(2, 9);
        x.undo();
        x.undo();
        x.feed('w');
        x.feed('a');
        return x;
    }

    /** Eight people, 160 bytes on the tape, 40 changes of 41, 50 needles. */
    private static ScalesByHate full() {
        ScalesByHate x = Bazaars.of(8);
        for (int i = 0; i < 41; i++) {
            x.feel(10 * (i / 7) + (i / 7 + 1 + i % 7) % 8, i % 2 == 0 ? -3 : 2);
        }
        for (int i = 0; i < 160; i++) {
            x.feed(i == 0 ? '-' : i % 2 == 1 ? '3' : '+');
        }
        for (int i = 0; i < 50; i++) {
            x.body(i % 8);
        }
        return x;
    }

    private static void theRichBazaarIsRich() {
        ScalesByHate x = rich();
        due.promise(42, "what may be lost is there");
        due.is("people", x.count(0), 4);
        due.is("bytes on the tape", x.count(1), 2);
        due.holds("changes to undo", x.count(2) > 0);
        due.is("needles", x.count(3), 8);
        due.is("bodies that ran", x.count(4), 14);
        due.holds("hate", x.count(5) > 0);
        int[] led = {2, 0, 0, 1, 1, 1};
        for (int what = 0; what < 6; what++) {
            due.holds("led(" + what + ")", what == 1 || what == 2 ? x.led(what) > 0 : x.led(what) == led[what]);
        }
        due.holds("a tale", x.tale(-1) > 8);
        due.is("to be done again", x.redo(), 1);
        ScalesByHate y = full();
        due.is("full: people", y.count(0), 8);
        due.is("full: the tape", y.count(1), 160);
        due.is("full: changes", y.count(2), 40);
        due.is("full: needles", y.count(3), 50);
    }

    // ---- what a call is asked to be

    private static void refused(Supplier<ScalesByHate> made, long answer, String name, long... given) {
        due.promise(Face.promiseOf(name), "what is refused changes nothing");
        Twins.leavesAll(due, made, answer, name, given);
    }

    private static void of(long answer, String name, long... given) {
        refused(RefusedTest::rich, answer, name, given);
    }

    private static void bad(String name, long... given) {
        of(BAD, name, given);
    }

    /** Refused for two reasons or more. */
    private static void first(Supplier<ScalesByHate> made, long answer, String name, long... given) {
        due.promise(Face.promiseOf(name), "of several answers the one named first");
        Twins.leavesAll(due, made, answer, name, given);
    }

    private static void first(long answer, String name, long... given) {
        first(RefusedTest::rich, answer, name, given);
    }

    private static void leaves(long answer, String name, long... given) {
        due.promise(Face.promiseOf(name), "it changes nothing");
        Twins.leavesAll(due, RefusedTest::rich, answer, name, given);
    }

    /** Of four people: alike, not there, no pair at all. */
    private static final long[] NO_PAIRS = {0, 11, 33, 4, 14, 34, 40, 43, 44, 80, 88, 100, 101, 110, -1, -10, -12, LEAST,
        MOST};
    /** Of four people. */
    private static final long[] NOBODIES = {-1, 4, 8, 9, LEAST, MOST};
    private static final long[] NO_SHELVES = {-1, 6, LEAST, MOST};

    // ---- people

    private static void comingIsRefused() {
        for (long hunger : new long[]{-1, 100, LEAST, MOST}) {
            bad("person", hunger, 0);
        }
        for (long wants : new long[]{-1, 10, LEAST, MOST}) {
            bad("person", 99, wants);
        }
        refused(RefusedTest::full, FULL, "person", 20, 5);
        first(RefusedTest::full, BAD, "person", 100, 5);
        first(RefusedTest::full, BAD, "person", 5, 10);
        for (long shelf : NO_SHELVES) {
            bad("people", shelf, 0, 1);
        }
        for (long n : new long[]{0, 9, -1, LEAST, MOST}) {
            bad("people", 0, 0, n);
            first(BAD, "people", 1, 0, n);
            first(BAD, "people", 4, 0, n);
            first(BAD, "people", 6, 0, n);
        }
        for (long shelf : new long[]{1, 2, 3, 5}) {
            of(KIND, "people", shelf, 0, 1);
            first(KIND, "people", shelf, -1, 8);
        }
        of(0, "people", 4, 0, 8);
        for (long i : new long[]{-1, -2, 3, 4, 5, LEAST, MOST}) {
            of(0, "people", 0, i, 8);
        }
    }

    private static void numbersAreRefused() {
        int[] most = {99, 9, 3, 9, 20, 99};
        for (int what = 0; what <= 5; what++) {
            for (long v : new long[]{-1, most[what] + 1, LEAST, MOST}) {
                bad("mend", 0, what, v);
            }
            for (long number : what < 2 ? NOBODIES : new long[]{-1, 1, 3, 4, LEAST, MOST}) {
                bad("mend", number, what, 1);
                bad("of", number, what);
            }
        }
        for (long what : new long[]{-1, 6, 7, LEAST, MOST}) {
            bad("mend", 0, what, 1);
            bad("of", 0, what);
        }
    }

    private static void feelingsAreRefused() {
        for (long ab : NO_PAIRS) {
            bad("feel", ab, 3);
            bad("feeling", ab);
        }
        for (long v : new long[]{-10, 10, LEAST, MOST}) {
            bad("feel", 1, v);
        }
    }

    private static void theTapeRefuses() {
        for (long letter : new long[]{-1, 256, LEAST, MOST}) {
            bad("feed", letter);
            first(RefusedTest::full, BAD, "feed", letter);
        }
        refused(RefusedTest::full, FULL, "feed", 0);
        refused(RefusedTest::full, FULL, "feed", 255);
        due.promise(9, "a FAULT leaves all but the tape");
        ScalesByHate x = rich();
        due.is("law() of 'wa'", x.law(), -100);
        ScalesByHate y = rich();
        due.is("law() of 'want'", y.feed('n') + y.feed('t') + y.law(), 8);
        due.holds("the law in force stands", x.later(2, 0) == rich().later(2, 0) && x.later(2, 0) != y.later(2, 0));
        due.is("changes stay", x.count(2), rich().count(2));
        due.is("what may be done again stays", x.redo(), 1);
    }

    // ---- today, days in thought, days seen

    private static void todayIsRefused() {
        for (long one : NOBODIES) {
            if (one != -1) {
                bad("paired", one);
                bad("harm", one);
                bad("later", 1, one);
            }
            bad("lacks", one, 1);
            bad("lacks", one, 2);
            bad("lasts", one);
            bad("worth", one, 1, 0);
        }
        bad("paired", -2);
        bad("harm", -2);
        bad("later", 1, -2);
        for (long one : new long[]{-1, 1, 3, 4, LEAST, MOST}) {
            bad("lacks", one, 0);
        }
        for (long what : new long[]{-1, 3, LEAST, MOST}) {
            bad("lacks", 0, what);
        }
        refused(RefusedTest::alone, NOT, "harm", -1);
        refused(RefusedTest::alone, NOT, "harm", 0);
        first(RefusedTest::alone, BAD, "harm", 1);
        first(RefusedTest::alone, BAD, "harm", -2);
        refused(RefusedTest::alone, NOT, "ring");
        refused(RefusedTest::empty, NOT, "ring");
    }

    private static void daysInThoughtAreRefused() {
        for (long n : new long[]{-1, 41, LEAST, MOST}) {
            bad("later", n, 0);
            bad("later", n, -1);
            bad("feltLater", n, 1);
            bad("worth", 0, n, 0);
        }
        for (long ab : NO_PAIRS) {
            bad("feltLater", 1, ab);
            bad("renewed", ab, 1);
        }
        for (long v : new long[]{-10, 10, LEAST, MOST}) {
            bad("renewed", 1, v);
        }
        for (long what : new long[]{-1, 2, LEAST, MOST}) {
            bad("worth", 0, 1, what);
            first(RefusedTest::alone, BAD, "worth", 0, 1, what);
        }
        refused(RefusedTest::alone, NOT, "worth", 0, 0, 0);
        refused(RefusedTest::alone, NOT, "worth", 0, 40, 1);
        first(RefusedTest::alone, BAD, "worth", 1, 0, 0);
        first(RefusedTest::alone, BAD, "worth", 0, 41, 1);
    }

    private static void daysSeenAreRefused() {
        for (long shelf : NO_SHELVES) {
            bad("judge", shelf, 0);
            bad("fits", shelf, 1, 0);
        }
        of(NOTHING, "judge", 4, 0);
        of(NOTHING, "fits", 4, 1, 0);
        for (long shelf : new long[]{1, 2, 3, 5}) {
            of(KIND, "judge", shelf, 0);
            of(KIND, "fits", shelf, 1, 1);
        }
        for (long one : NOBODIES) {
            bad("judge", 0, one);
            first(BAD, "judge", 1, one);
            first(BAD, "judge", 3, one);
            first(BAD, "judge", 4, one);
        }
        for (long ab : NO_PAIRS) {
            bad("fits", 0, ab, 2);
            first(BAD, "fits", 3, ab, 0);
            first(BAD, "fits", 4, ab, 0);
        }
        for (long what : new long[]{-1, 3, LEAST, MOST}) {
            bad("fits", 0, 1, what);
            first(BAD, "fits", 1, 1, what);
            first(BAD, "fits", 4, 1, what);
        }
    }

    private static void playsAndDrawsAreRefused() {
        for (long ab : NO_PAIRS) {
            bad("byTurns", ab, 1, 0);
        }
        for (long n : new long[]{0, 6, -1, LEAST, MOST}) {
            bad("byTurns", 1, n, 0);
        }
        for (long what : new long[]{-1, 2, LEAST, MOST}) {
            bad("byTurns", 1, 1, what);
        }
        for (long one : NOBODIES) {
            if (one != -1) {
                bad("drawn", 7, 10100, one);
            }
        }
        bad("drawn", 7, 10100, -2);
        long[] nmw = {0, 1, 100, 9999, 10000, 10012, 10113, 10199, 12100, 19999, 210100, 200013, 202100, 1000101, -10101,
            -1, LEAST, MOST};
        for (long told : nmw) {
            bad("drawn", 7, told, 0);
            bad("drawn", 7, told, -1);
        }
    }

    // ---- in deed

    private static void deedsAreRefused() {
        for (long ab : NO_PAIRS) {
            bad("wrong", ab, 1);
            bad("gift", ab, 1);
            bad("lease", ab, 2);
        }
        for (long v : new long[]{0, 10, -1, LEAST, MOST}) {
            bad("wrong", 1, v);
        }
        for (long v : new long[]{0, 100, -1, LEAST, MOST}) {
            bad("gift", 1, v);
        }
        for (long what : new long[]{-1, 6, LEAST, MOST}) {
            bad("led", what);
        }
        for (long i : new long[]{-2, -3, LEAST}) {
            bad("tale", i);
            first(RefusedTest::empty, BAD, "tale", i);
        }
        long length = rich().tale(-1);
        of(';', "tale", length - 1);
        for (long i : new long[]{length, length + 1, 72, MOST}) {
            of(NOT, "tale", i);
        }
        refused(RefusedTest::empty, NOT, "tale", 0);
    }

    private static void leasesAreRefused() {
        for (long c : NOBODIES) {
            bad("lease", 1, c);
        }
        ScalesByHate x = rich();
        int refusals = 0;
        for (int abc = 0; abc < 444; abc++) {
            int a = abc / 100;
            int b = abc / 10 % 10;
            int c = abc % 10;
            if (a > 3 || b > 3 || c > 3) {
                continue;
            }
            if (a == b || a == c || b == c) {
                first(BAD, "lease", 10 * a + b, c);
            } else if (x.feeling(10 * b + c) >= 100) {
                of(STATE, "lease", 10 * a + b, c);
                refusals++;
            }
        }
        due.promise(25, "b HATES c not");
        due.holds("some were refused so", refusals > 5);
    }

    private static void stepsAreRefused() {
        refused(RefusedTest::empty, STATE, "back");
        refused(RefusedTest::full, STATE, "back");
        refused(RefusedTest::empty, STATE, "undo");
        refused(RefusedTest::alone, STATE, "undo");
        refused(RefusedTest::empty, STATE, "redo");
        refused(RefusedTest::full, STATE, "redo");
    }

    // ---- needles, shelves

    private static void needlesAreRefused() {
        for (long kind : new long[]{-1, 8, LEAST, MOST}) {
            bad("body", kind);
            first(RefusedTest::full, BAD, "body", kind);
        }
        refused(RefusedTest::full, FULL, "body", 0);
        refused(RefusedTest::full, FULL, "body", 7);
        for (long i : new long[]{-1, 14, 23, 24, 25, LEAST, MOST}) {
            bad("trace", i);
        }
        refused(RefusedTest::empty, BAD, "trace", 0);
        for (long what : new long[]{-1, 6, LEAST, MOST}) {
            bad("count", what);
        }
        for (long shelf : NO_SHELVES) {
            bad("taken", shelf, 0);
        }
        for (long k : new long[]{-1, 8, LEAST, MOST}) {
            bad("taken", 3, k);
            first(BAD, "taken", 4, k);
            first(BAD, "taken", 0, k);
        }
        of(NOTHING, "taken", 4, 0);
        for (long shelf : new long[]{0, 1, 2, 5}) {
            of(KIND, "taken", shelf, 0);
        }
        for (long k : new long[]{2, 3, 5, 6}) {
            of(KIND, "taken", 3, k);
        }
    }

    private static void shelvesAreRefused() {
        for (long shelf : NO_SHELVES) {
            bad("keep", shelf, -1);
            bad("keep", shelf, 0);
            bad("row", shelf, 0, 1);
            first(BAD, "row", shelf, 0, -1);
        }
        for (long body : new long[]{-2, 8, 49, 50, LEAST, MOST}) {
            bad("keep", 0, body);
            bad("keep", 3, body);
        }
        refused(RefusedTest::empty, BAD, "keep", 0, 0);
        for (long sort : new long[]{-1, 5, LEAST, MOST}) {
            bad("row", 0, sort, 1);
            first(BAD, "row", 0, sort, -1);
            first(BAD, "row", 0, sort, 61);
        }
        for (long shelf = 0; shelf < 6; shelf++) {
            bad("row", shelf, 4, 61);
            bad("row", shelf, 0, MOST);
            of(SIZE, "row", shelf, 3, -1);
            of(SIZE, "row", shelf, 0, LEAST);
        }
    }

    private static void elementsAreRefused() {
        for (long shelf : NO_SHELVES) {
            bad("put", shelf, 0, 1);
            of(NO_ELEMENT, "element", shelf, 0);
        }
        for (long i : new long[]{0, -1, 60, LEAST, MOST}) {
            of(NOTHING, "put", 4, i, 1);
            of(KIND, "put", 3, i, 1);
            of(NO_ELEMENT, "element", 4, i);
            of(NO_ELEMENT, "element", 3, i);
        }
        long[][] rows = {{0, 4}, {1, 3}, {2, 2}, {5, 2}};
        for (long[] row : rows) {
            for (long i : new long[]{-1, row[1], row[1] + 1, 59, 60, LEAST, MOST}) {
                of(PLACE, "put", row[0], i, 1);
                of(NO_ELEMENT, "element", row[0], i);
            }
        }
    }

    private static void shiftsAreRefused() {
        for (long shelf : NO_SHELVES) {
            bad("shift", shelf, 0, 0, 0, 1);
            bad("shift", 0, 0, shelf, 0, 1);
            first(BAD, "shift", shelf, 0, 4, 0, 1);
            first(BAD, "shift", 4, 0, shelf, 0, 1);
            first(BAD, "shift", shelf, 0, 3, 9, 1);
        }
        of(NOTHING, "shift", 4, 0, 0, 0, 1);
        of(NOTHING, "shift", 0, 0, 4, 0, 1);
        of(NOTHING, "shift", 4, 0, 4, 0, 0);
        first(NOTHING, "shift", 4, 0, 3, 0, 1);
        first(NOTHING, "shift", 3, 0, 4, 0, 1);
        first(NOTHING, "shift", 4, -1, 0, 9, 99);
        first(NOTHING, "shift", 0, 9, 4, -1, 99);
        long[][] unlike = {{0, 1}, {1, 0}, {1, 2}, {2, 5}, {5, 0}, {0, 3}, {3, 0}, {3, 3}};
        for (long[] pair : unlike) {
            of(KIND, "shift", pair[0], 0, pair[1], 0, 0);
            of(KIND, "shift", pair[0], 0, pair[1], 0, 1);
            first(KIND, "shift", pair[0], -1, pair[1], 99, 1);
        }
        long[][] places = {{-1, 0, 1}, {0, -1, 1}, {-1, 0, 0}, {0, -1, 0}, {4, 0, 1}, {0, 4, 1}, {5, 0, 0}, {0, 5, 0},
            {0, 0, 5}, {1, 0, 4}, {0, 1, 4}, {3, 0, 2}, {0, 3, 2}, {MOST, 0, 1}, {0, MOST, 1}, {0, 0, MOST},
            {MOST, 0, MOST}, {0, MOST, MOST}, {LEAST, 0, 1}, {0, LEAST, 1}, {LEAST, LEAST, MOST}, {1, 1, MOST}};
        for (long[] place : places) {
            of(PLACE, "shift", 0, place[0], 0, place[1], place[2]);
        }
    }

    // ---- what is no refusal and yet leaves everything

    private static void sameNumbersAreNoChanges() {
        ScalesByHate x = rich();
        for (int what = 0; what <= 5; what++) {
            leaves(x.of(0, what), "mend", 0, what, x.of(0, what));
        }
        for (int ab : new int[]{1, 3, 10, 32}) {
            leaves(x.feeling(ab), "feel", ab, x.feeling(ab) - 100);
        }
    }

    private static void tellingLeavesAll() {
        ScalesByHate x = rich();
        String[] ofOne = {"paired", "harm", "lasts", "led", "trace", "tale", "count"};
        for (String name : ofOne) {
            leaves(Face.call(x, name, 1), name, 1);
        }
        leaves(x.paired(-1), "paired", -1);
        leaves(x.harm(-1), "harm", -1);
        leaves(x.feeling(31), "feeling", 31);
        leaves(x.ring(), "ring");
        leaves(x.tale(-1), "tale", -1);
        for (int what = 0; what <= 2; what++) {
            leaves(x.lacks(0, what), "lacks", 0, what);
            leaves(x.fits(0, 1, what), "fits", 0, 1, what);
        }
        leaves(x.judge(0, 1), "judge", 0, 1);
        leaves(x.of(2, 0), "of", 2, 0);
        for (int one = -1; one < 4; one++) {
            leaves(x.later(40, one), "later", 40, one);
            leaves(x.drawn(9, 20512, one), "drawn", 9, 20512, one);
        }
        leaves(x.feltLater(40, 10), "feltLater", 40, 10);
        leaves(x.renewed(10, -9), "renewed", 10, -9);
        leaves(x.worth(0, 40, 0), "worth", 0, 40, 0);
        leaves(x.worth(0, 40, 1), "worth", 0, 40, 1);
        leaves(x.byTurns(1, 5, 0), "byTurns", 1, 5, 0);
        leaves(x.byTurns(1, 5, 1), "byTurns", 1, 5, 1);
        leaves(x.element(0, 2), "element", 0, 2);
        leaves(x.taken(3, 1), "taken", 3, 1);
    }
}
