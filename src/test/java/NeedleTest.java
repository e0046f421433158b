/** Promises 33 to 42: needles and their acts, shelves and rows, counts. */
public final class NeedleTest {
    private static final int BAD = -1, FULL = -3;
    private static final Due due = new Due();

    public static void main(String[] args) {
        needlesAreKept();
        actsRun();
        actsThatAreNot();
        xWraps();
        shelvesHold();
        rowsAreMade();
        elementsKeepTheirBits();
        placesAreRefused();
        elementsAreShifted();
        needlesAreTaken();
        countsAreTold();
        due.end();
    }

    private static ScalesByHate withNeedles() {
        ScalesByHate x = new ScalesByHate();
        for (int kind = 0; kind < 8; kind++) {
            x.body(kind);
        }
        return x;
    }

    private static void needlesAreKept() {
        due.promise(33, "A NEEDLE of a KIND is kept");
        ScalesByHate x = new ScalesByHate();
        due.is("body(-1)", x.body(-1), BAD);
        due.is("body(8)", x.body(8), BAD);
        for (int i = 0; i < 50; i++) {
            due.is("body " + i, x.body(i % 8), i);
        }
        due.is("body, full", x.body(0), FULL);
        due.is("body, full and bad", x.body(8), BAD);
        due.is("count(3)", x.count(3), 50);
        due.is("act of the last, of kind 1", x.act(49, 0, 1), 53);
    }

    private static void actIs(ScalesByHate x, int body, int act, int n, int answer, int... bodies) {
        String call = "act(" + body + ", " + act + ", " + n + ")";
        due.is(call, x.act(body, act, n), answer);
        due.is(call + ", how many ran", x.count(4), bodies.length);
        for (int i = 0; i < bodies.length; i++) {
            due.is(call + ", trace(" + i + ")", x.trace(i), bodies[i]);
        }
        due.is(call + ", behind the trace", x.trace(bodies.length), BAD);
    }

    private static void actsRun() {
        due.promise(34, "ACTS; promise 35, THE TRACE; promise 42, how many ran");
        ScalesByHate x = withNeedles();
        actIs(x, 0, 0, 5, 5, 1);
        actIs(x, 0, 1, 5, 10, 10, 1);
        actIs(x, 0, 2, 5, 5, 11);
        actIs(x, 0, 3, 5, 9, 2, 10, 1, 11);
        actIs(x, 1, 0, 5, 9, 20, 1);
        actIs(x, 1, 1, 5, 18, 10, 20, 1);
        actIs(x, 1, 2, 5, 4, 11);
        actIs(x, 1, 3, 5, 18, 2, 10, 20, 1, 11);
        actIs(x, 2, 0, 5, 7, 1);
        actIs(x, 2, 1, 5, -14, 30, 10, 1);
        actIs(x, 2, 3, 5, -17, 2, 30, 10, 1, 11);
        actIs(x, 3, 0, 5, 8, 1);
        actIs(x, 3, 1, 5, -18, 41, 30, 10, 1);
        actIs(x, 3, 2, 5, 18, 40, 11);
        actIs(x, 3, 3, 5, -24, 2, 41, 30, 10, 1, 40, 11);
        actIs(x, 4, 0, 5, 12, 20, 1);
        actIs(x, 4, 1, 5, 24, 10, 20, 1);
        actIs(x, 4, 2, 5, -8, 50, 11, 20, 1);
        actIs(x, 4, 3, 5, 28, 2, 10, 20, 1, 50, 11, 20, 1);
        actIs(x, 5, 0, 5, 10, 1);
        actIs(x, 5, 1, 5, -22, 41, 30, 10, 1);
        actIs(x, 5, 2, 6, 9, 40, 11);
        actIs(x, 5, 3, 5, (-22 - 12) ^ 5, 60, 2, 41, 30, 10, 1, 40, 11);
        actIs(x, 6, 0, 5, 22, 70, 1);
        actIs(x, 6, 1, 5, 44, 10, 70, 1);
        actIs(x, 6, 2, 5, 3, 11);
        actIs(x, 6, 3, 5, 37, 2, 10, 70, 1, 11);
        actIs(x, 7, 0, 5, 15, 20, 1);
        actIs(x, 7, 1, 5, 30 + 5 - 12, 80, 10, 20, 1, 50, 11, 20, 1);
        actIs(x, 7, 2, 5, 2 - 12, 50, 11, 20, 1);
        actIs(x, 7, 3, 5, 23 - (6 - 12) - 1, 81, 2, 80, 10, 20, 1, 50, 11, 20, 1, 50, 11, 20, 1);
    }

    private static void actsThatAreNot() {
        due.promise(34, "no such NEEDLE, ACT; promise 35, no TRACE then");
        ScalesByHate x = withNeedles();
        due.is("trace(0) at first", x.trace(0), BAD);
        int[][] none = {{-1, 0}, {8, 0}, {0, -1}, {0, 4}, {50, 3}, {Integer.MIN_VALUE, Integer.MAX_VALUE}};
        for (int[] row : none) {
            x.act(7, 3, 1);
            due.is("14 ran", x.count(4), 14);
            due.is("trace(-1)", x.trace(-1), BAD);
            due.is("act that is not", x.act(row[0], row[1], 9), 0);
            due.is("no trace", x.trace(0), BAD);
            due.is("none ran", x.count(4), 0);
        }
    }

    private static void xWraps() {
        due.promise(34, "x wraps");
        ScalesByHate x = withNeedles();
        due.is("weighs", x.act(1, 0, Integer.MAX_VALUE), Integer.MIN_VALUE + 3);
        due.is("hates", x.act(2, 1, Integer.MAX_VALUE), -((Integer.MAX_VALUE + 2) * 2));
        due.is("x + 1", x.act(3, 1, Integer.MAX_VALUE), -((Integer.MIN_VALUE + 3) * 2));
        due.is("stands", x.act(3, 2, Integer.MIN_VALUE), (Integer.MIN_VALUE ^ 3) * 3);
        due.is("least", x.act(0, 0, Integer.MIN_VALUE), Integer.MIN_VALUE);
    }

    private static void shelvesHold() {
        due.promise(36, "SHELVES hold nothing, or a NEEDLE");
        ScalesByHate x = withNeedles();
        due.is("keep(-1, 0)", x.keep(-1, 0), BAD);
        due.is("keep(6, 0)", x.keep(6, 0), BAD);
        due.is("keep(0, -2)", x.keep(0, -2), BAD);
        due.is("keep(0, 8)", x.keep(0, 8), BAD);
        due.is("keep(5, 7)", x.keep(5, 7), 1);
        due.is("a needle is no row", x.put(5, 0, 1), -12);
        due.is("keep(5, -1)", x.keep(5, -1), 1);
        due.is("nothing is there", x.put(5, 0, 1), -11);
        x.row(5, 3, 2);
        due.is("a row", x.put(5, 0, 7), 1);
        due.is("bad leaves it", x.keep(5, 8), BAD);
        due.is("there", x.element(5, 0), 7);
        due.is("a needle instead", x.keep(5, 1), 1);
        due.is("the row is away", x.element(5, 0), Long.MIN_VALUE);
        x.row(5, 3, 2);
        due.is("a new row is empty", x.element(5, 0), 0);
    }

    private static void rowsAreMade() {
        due.promise(37, "SHELVES hold a ROW");
        ScalesByHate x = new ScalesByHate();
        due.is("row(-1, 0, 1)", x.row(-1, 0, 1), BAD);
        due.is("row(6, 0, 1)", x.row(6, 0, 1), BAD);
        due.is("row(0, -1, 1)", x.row(0, -1, 1), BAD);
        due.is("row(0, 5, 1)", x.row(0, 5, 1), BAD);
        due.is("row(0, 0, 61)", x.row(0, 0, 61), BAD);
        due.is("row(0, 0, -1)", x.row(0, 0, -1), -14);
        due.is("row(0, 5, -1)", x.row(0, 5, -1), BAD);
        due.is("row(6, 0, -1)", x.row(6, 0, -1), BAD);
        due.is("still bare", x.put(0, 0, 0), -11);
        due.is("row(0, 0, 0)", x.row(0, 0, 0), 1);
        due.is("no place in it", x.put(0, 0, 0), -13);
        for (int sort = 0; sort <= 4; sort++) {
            due.is("row of 60, " + sort, x.row(sort, sort, 60), 1);
            due.is("first", x.element(sort, 0), 0);
            due.is("last", x.element(sort, 59), 0);
            due.is("put last", x.put(sort, 59, 1), 1);
            due.is("last", x.element(sort, 59), 1);
            due.is("behind", x.put(sort, 60, 1), -13);
        }
        due.is("a row anew", x.row(3, 3, 60), 1);
        due.is("is 0", x.element(3, 59), 0);
        x.put(4, 0, 1);
        x.row(3, 3, 60);
        due.is("the next shelf's first stays", x.element(4, 0), 1);
        due.is("a refused one", x.row(2, 2, -5), -14);
        due.is("leaves what is there", x.element(2, 59), 1);
    }

    private static void elementsKeepTheirBits() {
        due.promise(38, "an element becomes v; promise 39, it is told");
        ScalesByHate x = new ScalesByHate();
        for (int sort = 0; sort <= 4; sort++) {
            x.row(sort, sort, 3);
        }
        long[] values = {0, 1, -1, 127, 128, 200, 256, -129, 32768, 65536, 1L << 31, 1L << 32, Long.MAX_VALUE,
            Long.MIN_VALUE + 1, 0x123456789abcdefL};
        for (long v : values) {
            for (int sort = 0; sort <= 4; sort++) {
                due.is("put " + v, x.put(sort, 1, v), 1);
            }
            due.is("byte " + v, x.element(0, 1), (byte) v);
            due.is("short " + v, x.element(1, 1), (short) v);
            due.is("int " + v, x.element(2, 1), (int) v);
            due.is("long " + v, x.element(3, 1), v);
            due.is("boolean " + v, x.element(4, 1), v != 0 ? 1 : 0);
        }
        due.is("beside it", x.element(3, 0), 0);
        due.is("behind it", x.element(3, 2), 0);
    }

    private static void placesAreRefused() {
        due.promise(38, "places that are not there; promise 39, too");
        ScalesByHate x = withNeedles();
        x.row(0, 3, 2);
        x.keep(1, 3);
        due.is("put(-1)", x.put(-1, 0, 1), BAD);
        due.is("put(6)", x.put(6, 0, 1), BAD);
        due.is("put on a needle", x.put(1, 9, 1), -12);
        due.is("put on nothing", x.put(2, 9, 1), -11);
        due.is("put below", x.put(0, -1, 1), -13);
        due.is("put behind", x.put(0, 2, 1), -13);
        int[][] refused = {{-1, 0}, {6, 0}, {1, 0}, {2, 0}, {0, -1}, {0, 2}, {0, Integer.MAX_VALUE}, {0, Integer.MIN_VALUE}};
        for (int[] row : refused) {
            due.is("element(" + row[0] + ", " + row[1] + ")", x.element(row[0], row[1]), Long.MIN_VALUE);
        }
    }

    private static void elementsAreShifted() {
        due.promise(40, "elements come to another ROW");
        ScalesByHate x = withNeedles();
        Bazaars.bytes(x, 0, 1, 2, 3, 4, 5);
        Bazaars.bytes(x, 1, 10, 20, 30);
        x.row(2, 1, 5);
        x.keep(3, 0);
        due.is("shift(-1..)", x.shift(-1, 0, 1, 0, 1), BAD);
        due.is("shift(.., 6)", x.shift(0, 0, 6, 0, 1), BAD);
        due.is("from nothing", x.shift(4, 0, 0, 0, 1), -11);
        due.is("to nothing", x.shift(0, 0, 4, 0, 1), -11);
        due.is("needle to nothing", x.shift(3, 0, 4, 0, 1), -11);
        due.is("to a needle", x.shift(0, 0, 3, 0, 1), -12);
        due.is("needle to itself", x.shift(3, 0, 3, 0, 0), -12);
        due.is("unlike sorts, and no place", x.shift(0, 9, 2, 9, 1), -12);
        int[][] places = {{-1, 0, 1}, {0, -1, 1}, {0, 0, 4}, {3, 0, 3}, {0, 3, 1}, {6, 0, 0}, {0, 4, 0}, {0, 0, -1},
            {Integer.MAX_VALUE, 0, 1}, {0, Integer.MAX_VALUE, 1}, {0, 0, Integer.MAX_VALUE}, {0, 0, Integer.MIN_VALUE},
            {Integer.MAX_VALUE, 0, Integer.MAX_VALUE}, {Integer.MIN_VALUE, 0, Integer.MIN_VALUE}};
        for (int[] row : places) {
            due.is("no place: " + row[0] + ", " + row[1] + ", " + row[2], x.shift(0, row[0], 1, row[1], row[2]), -13);
        }
        due.is("none, at the ends", x.shift(0, 5, 1, 3, 0), 0);
        due.is("three", x.shift(0, 2, 1, 0, 3), 3);
        due.is("first of them", x.element(1, 0), 3);
        due.is("last of them", x.element(1, 2), 5);
        due.is("within itself, up", x.shift(0, 0, 0, 1, 4), 4);
        int[] up = {1, 1, 2, 3, 4};
        for (int i = 0; i < 5; i++) {
            due.is("up, " + i, x.element(0, i), up[i]);
        }
        due.is("within itself, down", x.shift(0, 2, 0, 0, 3), 3);
        int[] down = {2, 3, 4, 3, 4};
        for (int i = 0; i < 5; i++) {
            due.is("down, " + i, x.element(0, i), down[i]);
        }
    }

    private static void needlesAreTaken() {
        due.promise(41, "taken for a NEEDLE of a KIND");
        ScalesByHate x = withNeedles();
        int[][] under = {{0}, {1, 0}, {2, 0}, {3, 2, 0}, {4, 1, 0}, {5, 3, 2, 0}, {6, 0}, {7, 4, 1, 0}};
        for (int kind = 0; kind < 8; kind++) {
            x.keep(0, kind);
            for (int k = 0; k < 8; k++) {
                boolean is = false;
                for (int above : under[kind]) {
                    is |= above == k;
                }
                due.is("kind " + kind + " taken for " + k, x.taken(0, k), is ? kind : -12);
            }
        }
        due.is("taken(-1, 0)", x.taken(-1, 0), BAD);
        due.is("taken(6, 0)", x.taken(6, 0), BAD);
        due.is("taken(0, -1)", x.taken(0, -1), BAD);
        due.is("taken(0, 8)", x.taken(0, 8), BAD);
        due.is("nothing", x.taken(1, 0), -11);
        x.row(1, 0, 1);
        due.is("a row", x.taken(1, 0), -12);
    }

    private static void countsAreTold() {
        due.promise(42, "how many");
        ScalesByHate x = Bazaars.ofOneBuyer();
        x.feel(12, -9);
        x.feed('a');
        x.body(3);
        x.act(0, 3, 1);
        int[] counts = {3, 1, 3, 1, 7, 2};
        for (int what = 0; what < 6; what++) {
            due.is("count(" + what + ")", x.count(what), counts[what]);
        }
        x.undo();
        due.is("count(2), undone", x.count(2), 2);
        due.is("count(5), undone", x.count(5), 1);
        due.is("count(-1)", x.count(-1), BAD);
        due.is("count(6)", x.count(6), BAD);
    }
}
