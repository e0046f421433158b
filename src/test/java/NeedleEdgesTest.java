/** Promises 33 to 42, sentence by sentence: the last that is taken and the first that is not, on both sides. */
public final class NeedleEdgesTest {
    private static final int BAD = -1, FULL = -3, NOTHING = -11, KIND = -12, PLACE = -13, SIZE = -14;
    private static final long NONE = Long.MIN_VALUE;
    private static final int[] ABOVE = {-1, 0, 0, 2, 1, 3, 0, 4};
    private static final Due due = new Due();

    public static void main(String[] args) {
        kindsAreFrom0To7();
        fiftyAreKept();
        interfacesHaveTheirBodies();
        kindsHaveTheirBodies();
        nIsItsNumber();
        xWraps();
        noSuchNeedleOrAct();
        theTraceIsOfTheLatestAct();
        theTraceIsAskedByPlace();
        shelvesHoldOneThing();
        shelvesAreFrom0To5();
        rowsHave0To60();
        rowsAre0AtFirst();
        lowestBitsAreKept();
        elementsStandByThemselves();
        placesAreThere();
        elementsThatAreNot();
        shiftsAsTheyAllWereBefore();
        shiftsOfAllSorts();
        shiftsWithinTheirRows();
        shiftsOfRowsAlike();
        takenForItsKinds();
        takenFromShelves();
        countsOfPeopleAndTape();
        countsOfChangesAndFeelings();
        countsOfBodies();
        due.end(33, 42);
    }

    private static ScalesByHate ofAllKinds() {
        ScalesByHate x = new ScalesByHate();
        for (int kind = 0; kind < 8; kind++) {
            x.body(kind);
        }
        return x;
    }

    // ---- promise 33

    private static void kindsAreFrom0To7() {
        due.promise(33, "of a KIND (0 .. 7): its number");
        ScalesByHate x = new ScalesByHate();
        due.is("body(-1)", x.body(-1), BAD);
        for (int kind = 0; kind < 8; kind++) {
            due.is("body(" + kind + ")", x.body(kind), kind);
        }
        due.is("body(8)", x.body(8), BAD);
        due.is("the next", x.body(7), 8);
        for (int body = 0; body < 9; body++) {
            x.keep(0, body);
            due.is("its kind", x.taken(0, 0), Math.min(body, 7));
        }
    }

    private static void fiftyAreKept() {
        due.promise(33, "BODIES 0 .. 49, FULL");
        ScalesByHate x = new ScalesByHate();
        for (int i = 0; i < 50; i++) {
            due.is("body", x.body(i % 8), i);
        }
        due.is("the fifty-first", x.body(0), FULL);
        due.is("count(3)", x.count(3), 50);
        due.is("keep(0, 49)", x.keep(0, 49), 1);
        due.is("keep(0, 50)", x.keep(0, 50), BAD);
        due.is("act(49, 0, 0): a SCORN", x.act(49, 0, 0), 52);
        due.is("act(50, 0, 0)", x.act(50, 0, 0), 0);
    }

    // ---- promise 34

    private static void ran(ScalesByHate x, int body, int act, int given, int answer, int... bodies) {
        String call = "act(" + body + ", " + act + ", " + given + ")";
        due.promise(34, "an ACT of a NEEDLE with x");
        due.is(call, x.act(body, act, given), answer);
        due.promise(42, "bodies that ran in the latest act()");
        due.is("count(4) behind " + call, x.count(4), bodies.length);
        due.promise(35, "numbers of the bodies that ran, as they began");
        for (int i = 0; i < bodies.length; i++) {
            due.is("trace(" + i + ") behind " + call, x.trace(i), bodies[i]);
        }
        due.is("trace behind all", x.trace(bodies.length), BAD);
    }

    private static void interfacesHaveTheirBodies() {
        ScalesByHate x = ofAllKinds();
        ran(x, 0, 0, 100, 100, 1);
        ran(x, 0, 1, 100, 200, 10, 1);
        ran(x, 0, 2, 100, 100, 11);
        ran(x, 0, 3, 100, 199, 2, 10, 1, 11);
    }

    private static void kindsHaveTheirBodies() {
        ScalesByHate x = ofAllKinds();
        ran(x, 1, 0, 100, 104, 20, 1);
        ran(x, 1, 1, 100, 208, 10, 20, 1);
        ran(x, 1, 2, 100, 101, 11);
        ran(x, 1, 3, 100, 208, 2, 10, 20, 1, 11);
        ran(x, 2, 0, 100, 102, 1);
        ran(x, 2, 1, 100, -204, 30, 10, 1);
        ran(x, 2, 2, 100, 102, 11);
        ran(x, 2, 3, 100, -207, 2, 30, 10, 1, 11);
        ran(x, 3, 0, 100, 103, 1);
        ran(x, 3, 1, 100, -208, 41, 30, 10, 1);
        ran(x, 3, 2, 100, 309, 40, 11);
        ran(x, 3, 3, 100, -214, 2, 41, 30, 10, 1, 40, 11);
        ran(x, 4, 0, 100, 107, 20, 1);
        ran(x, 4, 1, 100, 214, 10, 20, 1);
        ran(x, 4, 2, 100, 96 - 9, 50, 11, 20, 1);
        ran(x, 4, 3, 100, 214 - (5 - 9), 2, 10, 20, 1, 50, 11, 20, 1);
        ran(x, 5, 0, 100, 105, 1);
        ran(x, 5, 1, 100, -212, 41, 30, 10, 1);
        ran(x, 5, 2, 100, 97 * 3, 40, 11);
        ran(x, 5, 3, 100, (-212 - 4 * 3) ^ 5, 60, 2, 41, 30, 10, 1, 40, 11);
        ran(x, 6, 0, 100, 212, 70, 1);
        ran(x, 6, 1, 100, 424, 10, 70, 1);
        ran(x, 6, 2, 100, 98, 11);
        ran(x, 6, 3, 100, 424 - 7, 2, 10, 70, 1, 11);
        ran(x, 7, 0, 100, 110, 20, 1);
        ran(x, 7, 1, 100, 220 + 5 - 12, 80, 10, 20, 1, 50, 11, 20, 1);
        ran(x, 7, 2, 100, 99 - 12, 50, 11, 20, 1);
        ran(x, 7, 3, 100, 213 - (6 - 12) - 1, 81, 2, 80, 10, 20, 1, 50, 11, 20, 1, 50, 11, 20, 1);
    }

    private static void nIsItsNumber() {
        due.promise(34, "n its number");
        ScalesByHate x = new ScalesByHate();
        for (int n = 0; n < 50; n++) {
            x.body(0);
            due.is("weighs of " + n, x.act(n, 0, 1000), 1000 + n);
            due.is("hates of " + n, x.act(n, 1, 1000), 2 * (1000 + n));
            due.is("stands of " + n, x.act(n, 2, 1000), 1000 ^ n);
            due.is("tells of " + n, x.act(n, 3, 1000), 2 * (1000 + n) - (1 ^ n));
        }
    }

    private static void xWraps() {
        due.promise(34, "x (an int that wraps)");
        ScalesByHate x = ofAllKinds();
        int most = Integer.MAX_VALUE;
        int least = Integer.MIN_VALUE;
        due.is("act(0, 0, MAX)", x.act(0, 0, most), most);
        due.is("act(1, 0, MAX)", x.act(1, 0, most), least + 3);
        due.is("act(0, 1, MAX)", x.act(0, 1, most), -2);
        due.is("act(0, 1, MIN)", x.act(0, 1, least), 0);
        due.is("act(2, 1, MAX / 2)", x.act(2, 1, most / 2 - 1), least);
        due.is("act(3, 1, MAX)", x.act(3, 1, most), -6);
        due.is("act(3, 2, MIN)", x.act(3, 2, least), (least + 3) * 3);
        due.is("act(6, 1, MAX)", x.act(6, 1, most), (most + 6) * 4);
        due.is("act(7, 2, MIN)", x.act(7, 2, least), (least + 7) - 12);
        due.is("act(7, 3, MIN)", x.act(7, 3, least), (least + 10) * 2 + 5 - 12 + 6 - 1);
    }

    private static void noSuchNeedleOrAct() {
        due.promise(34, "0, and no TRACE then: no such NEEDLE, ACT");
        int[][] none = {{-1, 0}, {8, 0}, {8, 3}, {0, -1}, {0, 4}, {7, 4}, {7, -1}, {50, 0}, {-1, -1},
            {Integer.MIN_VALUE, 0}, {Integer.MAX_VALUE, 0}, {0, Integer.MIN_VALUE}, {0, Integer.MAX_VALUE}};
        for (int[] call : none) {
            ScalesByHate x = ofAllKinds();
            x.act(7, 3, 5);
            due.is("act(" + call[0] + ", " + call[1] + ", 5)", x.act(call[0], call[1], 5), 0);
            due.is("count(4)", x.count(4), 0);
            due.is("trace(0)", x.trace(0), BAD);
        }
        due.is("no needle", new ScalesByHate().act(0, 0, 5), 0);
    }

    // ---- promise 35

    private static void theTraceIsOfTheLatestAct() {
        due.promise(35, "THE TRACE: of the latest act()");
        ScalesByHate x = ofAllKinds();
        due.is("no act yet", x.trace(0), BAD);
        x.act(7, 3, 1);
        due.is("14 bodies: the last", x.trace(13), 1);
        x.act(0, 2, 1);
        due.is("one body", x.trace(0), 11);
        due.is("nothing of the act ahead", x.trace(1), BAD);
        x.body(0);
        x.keep(0, 3);
        x.day();
        due.is("other calls leave it", x.trace(0), 11);
    }

    private static void theTraceIsAskedByPlace() {
        due.promise(35, "THE TRACE's i-th body. BAD");
        ScalesByHate x = ofAllKinds();
        x.act(7, 3, 1);
        int[] bodies = {81, 2, 80, 10, 20, 1, 50, 11, 20, 1, 50, 11, 20, 1};
        for (int i = -3; i <= 60; i++) {
            due.is("trace(" + i + ")", x.trace(i), i >= 0 && i < 14 ? bodies[i] : BAD);
        }
        due.is("trace(MIN)", x.trace(Integer.MIN_VALUE), BAD);
        due.is("trace(MAX)", x.trace(Integer.MAX_VALUE), BAD);
    }

    // ---- promises 36, 37

    private static void shelvesHoldOneThing() {
        ScalesByHate x = ofAllKinds();
        for (int shelf = 0; shelf <= 5; shelf++) {
            due.promise(36, "a SHELF holds nothing (body -1), or a NEEDLE: 1");
            due.is("nothing at first", x.taken(shelf, 0), NOTHING);
            due.is("keep(" + shelf + ", -1)", x.keep(shelf, -1), 1);
            due.is("nothing", x.taken(shelf, 0), NOTHING);
            due.is("keep(" + shelf + ", 5)", x.keep(shelf, 5), 1);
            due.is("a needle", x.taken(shelf, 0), 5);
            due.is("keep(" + shelf + ", 0)", x.keep(shelf, 0), 1);
            due.is("another", x.taken(shelf, 0), 0);
            due.promise(37, "a SHELF holds a ROW: 1");
            due.is("row(" + shelf + ", 3, 2)", x.row(shelf, 3, 2), 1);
            due.is("no needle any more", x.taken(shelf, 0), KIND);
            due.is("put", x.put(shelf, 1, 100 + shelf), 1);
            due.promise(36, "instead of what it held");
            due.is("keep(" + shelf + ", -1)", x.keep(shelf, -1), 1);
            due.is("the row is away", x.element(shelf, 1), NONE);
            x.row(shelf, 3, 2);
            due.is("a new row is 0", x.element(shelf, 1), 0);
            x.put(shelf, 1, 100 + shelf);
        }
        due.promise(36, "each SHELF holds its own");
        for (int shelf = 0; shelf <= 5; shelf++) {
            due.is("element(" + shelf + ", 1)", x.element(shelf, 1), 100 + shelf);
        }
        for (int shelf = 0; shelf <= 5; shelf++) {
            x.keep(shelf, 7 - shelf);
        }
        for (int shelf = 0; shelf <= 5; shelf++) {
            due.is("taken(" + shelf + ", 0)", x.taken(shelf, 0), 7 - shelf);
        }
        due.promise(36, "a NEEDLE may stand on more than one");
        x.keep(0, 3);
        x.keep(1, 3);
        due.is("on 0", x.taken(0, 3), 3);
        due.is("on 1", x.taken(1, 3), 3);
    }

    private static void shelvesAreFrom0To5() {
        ScalesByHate x = ofAllKinds();
        for (int shelf : new int[]{-1, 6, Integer.MIN_VALUE, Integer.MAX_VALUE}) {
            due.promise(36, "SHELVES 0 .. 5");
            due.is("keep(" + shelf + ", 0)", x.keep(shelf, 0), BAD);
            due.is("keep(" + shelf + ", -1)", x.keep(shelf, -1), BAD);
            due.promise(37, "SHELVES 0 .. 5");
            due.is("row(" + shelf + ", 0, 1)", x.row(shelf, 0, 1), BAD);
            due.promise(38, "SHELVES 0 .. 5");
            due.is("put(" + shelf + ", 0, 1)", x.put(shelf, 0, 1), BAD);
            due.promise(39, "SHELVES 0 .. 5");
            due.is("element(" + shelf + ", 0)", x.element(shelf, 0), NONE);
            due.promise(40, "SHELVES 0 .. 5");
            due.is("shift(" + shelf + ", ..)", x.shift(shelf, 0, 0, 0, 0), BAD);
            due.is("shift(0, 0, " + shelf + ", ..)", x.shift(0, 0, shelf, 0, 0), BAD);
            due.promise(41, "SHELVES 0 .. 5");
            due.is("taken(" + shelf + ", 0)", x.taken(shelf, 0), BAD);
        }
        due.promise(36, "BAD: no such BODY");
        due.is("keep(0, -2)", x.keep(0, -2), BAD);
        due.is("keep(0, 7)", x.keep(0, 7), 1);
        due.is("keep(0, 8)", x.keep(0, 8), BAD);
        due.is("it holds the seventh", x.taken(0, 0), 7);
    }

    private static void rowsHave0To60() {
        due.promise(37, "BAD (sort, n above 60); -14: a size below 0");
        for (int sort = -1; sort <= 5; sort++) {
            boolean is = sort >= 0 && sort <= 4;
            ScalesByHate x = new ScalesByHate();
            due.is("a row of -1, sort " + sort, x.row(0, sort, -1), is ? SIZE : BAD);
            due.is("a row of MIN, sort " + sort, x.row(0, sort, Integer.MIN_VALUE), is ? SIZE : BAD);
            due.is("a row of 61, sort " + sort, x.row(0, sort, 61), BAD);
            due.is("a row of MAX, sort " + sort, x.row(0, sort, Integer.MAX_VALUE), BAD);
            due.is("nothing stands there", x.put(0, 0, 1), NOTHING);
            for (int n : new int[]{0, 1, 59, 60}) {
                due.is("a row of " + n + ", sort " + sort, x.row(0, sort, n), is ? 1 : BAD);
                due.is("its last", x.put(0, n - 1, 1), is ? n == 0 ? PLACE : 1 : NOTHING);
                due.is("behind its last", x.put(0, n, 1), is ? PLACE : NOTHING);
            }
        }
        ScalesByHate x = new ScalesByHate();
        x.row(0, 0, 3);
        x.put(0, 2, 9);
        due.is("a refused one", x.row(0, 0, 61), BAD);
        due.is("another", x.row(0, 0, -1), SIZE);
        due.is("leave what is there", x.element(0, 2), 9);
        due.is("a shorter one", x.row(0, 0, 2), 1);
        due.is("has fewer", x.put(0, 2, 1), PLACE);
    }

    private static void rowsAre0AtFirst() {
        due.promise(37, "0 at first (false)");
        for (int sort = 0; sort <= 4; sort++) {
            ScalesByHate x = new ScalesByHate();
            x.row(5, sort, 60);
            for (int i = 0; i < 60; i++) {
                due.is("element(5, " + i + ")", x.element(5, i), 0);
                x.put(5, i, -1);
            }
            x.row(5, (sort + 1) % 5, 60);
            for (int i = 0; i < 60; i++) {
                due.is("a new row: element(5, " + i + ")", x.element(5, i), 0);
            }
        }
    }

    // ---- promises 38, 39

    private static long kept(int sort, long v) {
        return sort == 0 ? (byte) v : sort == 1 ? (short) v : sort == 2 ? (int) v : sort == 3 ? v : v != 0 ? 1 : 0;
    }

    private static void lowestBitsAreKept() {
        long[] values = {0, 1, -1, 2, 127, 128, -128, -129, 255, 256, 32767, 32768, -32768, -32769, 65535, 65536,
            Integer.MAX_VALUE, Integer.MAX_VALUE + 1L, Integer.MIN_VALUE, Integer.MIN_VALUE - 1L, 1L << 32, 1L << 63, Long.MAX_VALUE,
            0x0123456789abcdefL, 0x8000000080008080L};
        for (int sort = 0; sort <= 4; sort++) {
            ScalesByHate x = new ScalesByHate();
            x.row(0, sort, 1);
            for (long v : values) {
                due.promise(38, "what is put in keeps its lowest bits (a boolean: whether it is not 0): 1");
                due.is("put " + v + ", sort " + sort, x.put(0, 0, v), 1);
                due.promise(39, "element i of a ROW (a boolean: 1 or 0)");
                due.is("element of " + v + ", sort " + sort, x.element(0, 0), kept(sort, v));
            }
        }
    }

    private static void elementsStandByThemselves() {
        due.promise(38, "element i alone becomes v");
        ScalesByHate x = new ScalesByHate();
        x.row(1, 3, 60);
        x.row(2, 3, 60);
        x.row(3, 3, 60);
        for (int i = 0; i < 60; i++) {
            x.put(2, i, 1000L + i);
        }
        for (int i = 0; i < 60; i++) {
            due.is("element(2, " + i + ")", x.element(2, i), 1000 + i);
            due.is("element(1, " + i + ")", x.element(1, i), 0);
            due.is("element(3, " + i + ")", x.element(3, i), 0);
        }
    }

    private static void placesAreThere() {
        for (int n : new int[]{0, 1, 7, 60}) {
            ScalesByHate x = new ScalesByHate();
            x.row(4, 2, n);
            for (int i : new int[]{Integer.MIN_VALUE, -60, -1, 0, 1, 6, 7, 8, 59, 60, 61, Integer.MAX_VALUE}) {
                boolean is = i >= 0 && i < n;
                due.promise(38, "-13: a place that is not there");
                due.is("put at " + i + " of " + n, x.put(4, i, 5), is ? 1 : PLACE);
                due.promise(39, "-13: Long.MIN_VALUE");
                due.is("element at " + i + " of " + n, x.element(4, i), is ? 5 : NONE);
            }
        }
    }

    private static void elementsThatAreNot() {
        ScalesByHate x = ofAllKinds();
        x.keep(1, 2);
        for (int i : new int[]{-1, 0, 60}) {
            due.promise(38, "-11: nothing is there");
            due.is("put(0, " + i + ", 1)", x.put(0, i, 1), NOTHING);
            due.promise(38, "-12: it is of another kind");
            due.is("put(1, " + i + ", 1)", x.put(1, i, 1), KIND);
            due.promise(39, "BAD, -11, -12: Long.MIN_VALUE");
            due.is("element(0, " + i + ")", x.element(0, i), NONE);
            due.is("element(1, " + i + ")", x.element(1, i), NONE);
        }
    }

    // ---- promise 40

    private static ScalesByHate withRows(int sort) {
        ScalesByHate x = new ScalesByHate();
        x.row(0, sort, 6);
        x.row(1, sort, 4);
        for (int i = 0; i < 6; i++) {
            x.put(0, i, sort == 4 ? i % 3 % 2 : 11 + i);
        }
        return x;
    }

    private static String row(ScalesByHate x, int shelf, int n) {
        StringBuilder told = new StringBuilder();
        for (int i = 0; i < n; i++) {
            told.append(' ').append(x.element(shelf, i));
        }
        return told.toString();
    }

    private static void shiftsAsTheyAllWereBefore() {
        due.promise(40, "n elements from i on come to the same from j on, as they all were before: n");
        for (int i = 0; i <= 6; i++) {
            for (int j = 0; j <= 6; j++) {
                for (int n = 0; n <= 6; n++) {
                    if (i + n > 6 || j + n > 6) {
                        continue;
                    }
                    ScalesByHate x = withRows(2);
                    StringBuilder want = new StringBuilder();
                    for (int k = 0; k < 6; k++) {
                        want.append(' ').append(k >= j && k < j + n ? 11 + i + k - j : 11 + k);
                    }
                    due.is("shift(0, " + i + ", 0, " + j + ", " + n + ")", x.shift(0, i, 0, j, n), n);
                    due.same("the row", row(x, 0, 6), want.toString());
                }
            }
        }
    }

    private static void shiftsOfAllSorts() {
        due.promise(40, "come to another one, the first stays");
        for (int sort = 0; sort <= 4; sort++) {
            ScalesByHate x = withRows(sort);
            String was = row(x, 0, 6);
            due.is("shift(0, 2, 1, 1, 3)", x.shift(0, 2, 1, 1, 3), 3);
            due.same("the first", row(x, 0, 6), was);
            due.same("the other", row(x, 1, 4), sort == 4 ? " 0 0 0 1" : " 0 13 14 15");
            due.is("back: shift(1, 0, 0, 3, 2)", x.shift(1, 0, 0, 3, 2), 2);
            due.same("the first", row(x, 0, 6), sort == 4 ? " 0 1 0 0 0 0" : " 11 12 13 0 13 16");
        }
    }

    private static void shiftsWithinTheirRows() {
        due.promise(40, "-13: a place that is not there");
        int[] edges = {Integer.MIN_VALUE, -7, -1, 0, 1, 2, 3, 4, 5, 6, 7, Integer.MAX_VALUE - 3, Integer.MAX_VALUE};
        for (int i : edges) {
            for (int j : edges) {
                for (int n : edges) {
                    boolean is = i >= 0 && j >= 0 && n >= 0 && (long) i + n <= 6 && (long) j + n <= 4;
                    ScalesByHate x = withRows(0);
                    String was = row(x, 1, 4);
                    due.is("shift(0, " + i + ", 1, " + j + ", " + n + ")", x.shift(0, i, 1, j, n), is ? n : PLACE);
                    due.holds("the other is touched if it is so", row(x, 1, 4).equals(was) == (!is || n == 0));
                }
            }
        }
        ScalesByHate x = new ScalesByHate();
        x.row(0, 1, 0);
        due.is("none of a row of none", x.shift(0, 0, 0, 0, 0), 0);
        due.is("one of a row of none", x.shift(0, 0, 0, 0, 1), PLACE);
        due.is("from 1 of a row of none", x.shift(0, 1, 0, 0, 0), PLACE);
        x.row(1, 1, 60);
        x.row(2, 1, 60);
        x.put(1, 59, 7);
        due.is("sixty", x.shift(1, 0, 2, 0, 60), 60);
        due.is("the last", x.element(2, 59), 7);
        due.is("sixty-one", x.shift(1, 0, 2, 0, 61), PLACE);
        due.is("sixty from 1 on", x.shift(1, 1, 2, 0, 60), PLACE);
    }

    private static void shiftsOfRowsAlike() {
        for (int sort = 0; sort <= 4; sort++) {
            for (int other = 0; other <= 4; other++) {
                ScalesByHate x = new ScalesByHate();
                x.row(0, sort, 2);
                x.row(1, other, 2);
                x.put(0, 0, 1);
                due.promise(40, "-12: of unlike sorts");
                due.is("sorts " + sort + ", " + other, x.shift(0, 0, 1, 0, 1), sort == other ? 1 : KIND);
                due.is("element(1, 0)", x.element(1, 0), sort == other ? 1 : 0);
                due.is("none of them", x.shift(0, 0, 1, 0, 0), sort == other ? 0 : KIND);
            }
        }
        ScalesByHate x = ofAllKinds();
        x.keep(0, 1);
        x.keep(1, 2);
        x.row(2, 0, 2);
        due.promise(40, "-12: no ROWS");
        due.is("needle to needle", x.shift(0, 0, 1, 0, 0), KIND);
        due.is("needle to itself", x.shift(0, 0, 0, 0, 0), KIND);
        due.is("needle to row", x.shift(0, 0, 2, 0, 1), KIND);
        due.is("row to needle", x.shift(2, 0, 0, 0, 1), KIND);
        due.promise(40, "-11 (either)");
        due.is("nothing to nothing", x.shift(3, 0, 4, 0, 0), NOTHING);
        due.is("nothing to itself", x.shift(3, 0, 3, 0, 0), NOTHING);
        due.is("nothing to row", x.shift(3, 0, 2, 0, 1), NOTHING);
        due.is("row to nothing", x.shift(2, 0, 3, 0, 1), NOTHING);
        due.is("nothing to needle", x.shift(3, 0, 0, 0, 1), NOTHING);
        due.is("needle to nothing", x.shift(0, 0, 3, 0, 1), NOTHING);
    }

    // ---- promise 41

    private static void takenForItsKinds() {
        due.promise(41, "taken for a NEEDLE of KIND k (0 .. 7), or under it: its KIND");
        ScalesByHate x = ofAllKinds();
        for (int kind = 0; kind < 8; kind++) {
            x.keep(2, kind);
            for (int k = -1; k <= 8; k++) {
                boolean is = false;
                for (int above = kind; above >= 0; above = ABOVE[above]) {
                    is |= above == k;
                }
                due.is("kind " + kind + " for " + k, x.taken(2, k), k < 0 || k > 7 ? BAD : is ? kind : KIND);
            }
        }
    }

    private static void takenFromShelves() {
        ScalesByHate x = ofAllKinds();
        due.promise(41, "-11: nothing is there");
        for (int shelf = 0; shelf <= 5; shelf++) {
            due.is("taken(" + shelf + ", 0)", x.taken(shelf, 0), NOTHING);
        }
        due.promise(41, "-12: it is of another kind");
        for (int sort = 0; sort <= 4; sort++) {
            x.row(0, sort, 1);
            due.is("a row of sort " + sort, x.taken(0, 0), KIND);
        }
        due.promise(41, "the NEEDLE stays");
        x.keep(0, 6);
        due.is("taken(0, 6)", x.taken(0, 6), 6);
        due.is("taken(0, 6) again", x.taken(0, 6), 6);
        due.is("taken(0, 7)", x.taken(0, 7), KIND);
        due.is("taken(0, 0)", x.taken(0, 0), 6);
    }

    // ---- promise 42

    private static void countsOfPeopleAndTape() {
        ScalesByHate x = new ScalesByHate();
        due.promise(42, "0 PEOPLE");
        for (int i = 0; i < 8; i++) {
            due.is("count(0)", x.count(0), i);
            x.person(100, 1);
            x.person(1, 1);
        }
        x.person(1, 1);
        due.is("count(0)", x.count(0), 8);
        due.promise(42, "1 bytes on THE TAPE");
        for (int i = 0; i < 5; i++) {
            due.is("count(1)", x.count(1), i);
            x.feed(256);
            x.feed(i);
        }
        x.law();
        due.is("count(1), read", x.count(1), 0);
        due.promise(42, "BAD");
        due.is("count(-1)", x.count(-1), BAD);
        due.is("count(6)", x.count(6), BAD);
    }

    private static void countsOfChangesAndFeelings() {
        ScalesByHate x = Bazaars.of(8);
        due.promise(42, "2 changes that may be UNDONE");
        due.is("count(2)", x.count(2), 0);
        x.mend(0, 0, 1);
        due.is("count(2)", x.count(2), 1);
        x.undo();
        due.is("count(2)", x.count(2), 0);
        x.redo();
        due.is("count(2)", x.count(2), 1);
        due.promise(42, "5 FEELINGS below 0");
        int below = 0;
        for (int ab = 0; ab < 80; ab++) {
            int felt = ab % 3 - 1;
            boolean isPair = x.feel(ab, felt) != BAD;
            below += isPair && felt < 0 ? 1 : 0;
            due.is("count(5) to " + ab, x.count(5), below);
        }
        due.is("feeling(10) is 0", x.feeling(10), 100);
        x.wrong(1, 9);
        due.is("by a wrong", x.count(5), below + 1);
        ScalesByHate all = Bazaars.of(8);
        for (int ab = 0; ab < 80; ab++) {
            all.feel(ab, -1);
        }
        due.is("all", all.count(5), 56);
        all.mend(0, 3, 1);
        all.day();
        due.is("faded", all.count(5), 0);
    }

    private static void countsOfBodies() {
        ScalesByHate x = new ScalesByHate();
        due.promise(42, "3 BODIES");
        for (int i = 0; i < 50; i++) {
            due.is("count(3)", x.count(3), i);
            x.body(7);
            x.body(8);
        }
        x.body(7);
        due.is("count(3)", x.count(3), 50);
        due.promise(42, "4 bodies that ran in the latest act()");
        due.is("none yet", x.count(4), 0);
        int[] ran = {2, 8, 4, 14};
        for (int act = 0; act < 4; act++) {
            x.act(49, act, 3);
            due.is("act " + act, x.count(4), ran[act]);
        }
        x.act(49, 4, 3);
        due.is("no act", x.count(4), 0);
    }
}
