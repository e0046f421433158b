import java.util.Random;

/** Runs of calls by draws (of fixed seeds), each answer compared with the oracle's. */
public final class OracleTest {
    private static final int RUNS = 1500;
    private static final int MOST_CALLS = 512;
    /** What one draw may call at most: a row laid, put and judged. */
    private static final int LONGEST_TURN = 80;

    private final Due due = new Due();
    private Random draws;
    private ScalesByHate own;
    private Oracle oracle;
    private int calls;
    private int run;

    public static void main(String[] args) {
        OracleTest test = new OracleTest();
        for (int run = 0; run < RUNS && test.due.wrong() == 0; run++) {
            test.runOne(run);
        }
        test.due.end(2, 42);
    }

    private void runOne(int number) {
        run = number;
        draws = new Random(number * 7919L + 17);
        own = new ScalesByHate();
        oracle = new Oracle();
        calls = 0;
        int people = draws.nextInt(9);
        for (int i = 0; i < people; i++) {
            person(hunger(), draws.nextInt(10));
        }
        int density = 1 + draws.nextInt(4);
        for (int a = 0; a < people; a++) {
            for (int b = 0; b < people; b++) {
                if (a != b && draws.nextInt(4) < density) {
                    feel(10 * a + b, draws.nextInt(19) - 9);
                }
            }
        }
        if (draws.nextInt(3) > 0) {
            tellLaw();
        }
        while (calls < MOST_CALLS - LONGEST_TURN && due.wrong() == 0) {
            callAny();
        }
    }

    // ---- draws

    private int hunger() {
        return draws.nextInt(4) == 0 ? 20 : draws.nextInt(100);
    }

    private int oneOf(int... some) {
        return some[draws.nextInt(some.length)];
    }

    /** Mostly within what is told, sometimes at its edges or outside. */
    private int within(int from, int to) {
        switch (draws.nextInt(14)) {
            case 0: return oneOf(from, to);
            case 1: return draws.nextInt(4) == 0
                ? oneOf(from - 1, to + 1, Integer.MIN_VALUE, Integer.MAX_VALUE, -1) : from;
            default: return from + draws.nextInt(to - from + 1);
        }
    }

    private int one() {
        int people = oracle.people();
        return people == 0 ? draws.nextInt(3) - 1 : within(0, people - 1);
    }

    private int pair() {
        int people = oracle.people();
        if (people < 2 || draws.nextInt(25) == 0) {
            return oneOf(0, 1, 10, 11, -1, -10, 80, 8, 100, 77, Integer.MIN_VALUE, Integer.MAX_VALUE, draws.nextInt(90));
        }
        int a = draws.nextInt(people);
        int b = (a + 1 + draws.nextInt(people - 1)) % people;
        return 10 * a + b;
    }

    private String expression(int depth) {
        StringBuilder e = new StringBuilder(operand(depth));
        int more = draws.nextInt(3);
        for (int i = 0; i < more; i++) {
            e.append("|&<=>+-*/%+-*/".charAt(draws.nextInt(14))).append(operand(depth));
        }
        return e.toString();
    }

    private String operand(int depth) {
        String[] words = {"hate", "love", "hunger", "want", "day", "done"};
        switch (draws.nextInt(9)) {
            case 0: return "!" + operand(depth + 1);
            case 1: return "-" + operand(depth + 1);
            case 2: return depth < 5 ? "(" + expression(depth + 1) + ")" : "7";
            case 3: return "" + draws.nextInt(10);
            case 4: return "" + draws.nextInt(10000);
            default: return words[draws.nextInt(6)];
        }
    }

    /** Laws that leap with hate and love, so that plays by turns differ. */
    private String leapingLaw() {
        String[] words = {"hate", "love", "hate", "done", "day"};
        StringBuilder text = new StringBuilder();
        for (int i = 0; i < 4; i++) {
            text.append(words[draws.nextInt(5)]).append("<=>".charAt(draws.nextInt(3))).append(draws.nextInt(9));
            text.append('?').append(draws.nextInt(25)).append(';');
        }
        return text.append(words[draws.nextInt(5)]).append("*").append(draws.nextInt(6)).toString();
    }

    private String lawText() {
        if (draws.nextInt(3) == 0) {
            return leapingLaw();
        }
        StringBuilder text = new StringBuilder();
        int lines = 1 + draws.nextInt(3);
        for (int i = 0; i < lines; i++) {
            text.append(i == 0 ? "" : ";");
            text.append(draws.nextInt(2) == 0 ? expression(0) + "?" : "").append(expression(0));
        }
        if (draws.nextInt(4) == 0 && text.length() > 0) {
            int at = draws.nextInt(text.length());
            char other = ";?|&<=>+-*/%!()0az \u00e9".charAt(draws.nextInt(20));
            switch (draws.nextInt(3)) {
                case 0: text.setCharAt(at, other); break;
                case 1: text.insert(at, other); break;
                default: text.deleteCharAt(at);
            }
        }
        return text.length() > 60 && draws.nextInt(3) > 0 ? text.substring(0, 60) : text.toString();
    }

    private void tellLaw() {
        String text = lawText();
        for (int i = 0; i < text.length() && calls < MOST_CALLS - 1; i++) {
            feed(text.charAt(i));
        }
        law();
    }

    /** A row that was seen, or nearly. */
    private void layRow() {
        int people = oracle.people();
        int shelf = draws.nextInt(6);
        int n = draws.nextInt(12) == 0 ? within(0, 60) : draws.nextInt(7);
        row(shelf, draws.nextInt(8) == 0 ? within(0, 4) : 0, n);
        int[] seen = people == 0 ? new int[0] : oracle.seenOf(draws.nextInt(people), Math.max(0, Math.min(n, 60)));
        for (int i = 0; i < seen.length; i++) {
            int by = draws.nextInt(3) == 0 ? 9 : draws.nextInt(15) == 0 ? draws.nextInt(12) - 1 : seen[i];
            put(shelf, i, by);
        }
        for (int i = 0; i < 4; i++) {
            judge(shelf, one());
            fits(shelf, pair(), within(0, 2));
        }
    }

    private void layPeople() {
        int shelf = draws.nextInt(6);
        int n = draws.nextInt(9);
        row(shelf, 0, n);
        for (int i = 0; i < n; i++) {
            put(shelf, i, draws.nextInt(12) == 0 ? draws.nextInt(300) - 100 : draws.nextInt(10));
        }
        people(shelf, within(0, 3), within(1, 8));
    }

    // ---- calls on both

    private void same(String call, long got, long want) {
        calls++;
        due.promise(Face.promiseOf(Face.nameOf(call)), "by draws");
        due.is("run " + run + ", call " + calls + ": " + call, got, want);
    }

    private void person(int h, int w) {
        same("person(" + h + ", " + w + ")", own.person(h, w), oracle.person(h, w));
    }

    private void people(int s, int i, int n) {
        same("people(" + s + ", " + i + ", " + n + ")", own.people(s, i, n), oracle.people(s, i, n));
    }

    private void feel(int ab, int v) {
        same("feel(" + ab + ", " + v + ")", own.feel(ab, v), oracle.feel(ab, v));
    }

    private void feed(int letter) {
        same("feed(" + letter + ")", own.feed(letter), oracle.feed(letter));
    }

    private void law() {
        same("law()", own.law(), oracle.law());
    }

    private void row(int s, int sort, int n) {
        same("row(" + s + ", " + sort + ", " + n + ")", own.row(s, sort, n), oracle.row(s, sort, n));
    }

    private void put(int s, int i, long v) {
        same("put(" + s + ", " + i + ", " + v + ")", own.put(s, i, v), oracle.put(s, i, v));
    }

    private void judge(int s, int one) {
        same("judge(" + s + ", " + one + ")", own.judge(s, one), oracle.judge(s, one));
    }

    private void fits(int s, int ab, int what) {
        same("fits(" + s + ", " + ab + ", " + what + ")", own.fits(s, ab, what), oracle.fits(s, ab, what));
    }

    private void callAny() {
        switch (draws.nextInt(5)) {
            case 0: callPeople(); break;
            case 1: callThought(); break;
            case 2: callDeed(); break;
            case 3: callAct(); break;
            default: callShelf();
        }
    }

    private void callPeople() {
        int a = one();
        int what = within(0, 5);
        int ab = pair();
        int v = draws.nextInt(9) == 0 ? within(0, 99) : within(0, 9);
        switch (draws.nextInt(12)) {
            case 0:
                if (draws.nextInt(4) == 0) {
                    person(within(0, 99), within(0, 9));
                }
                break;
            case 1: case 2:
                a = what >= 2 && draws.nextInt(8) > 0 ? 0 : a;
                same("mend(" + a + ", " + what + ", " + v + ")", own.mend(a, what, v), oracle.mend(a, what, v));
                break;
            case 3: case 4:
                a = what >= 2 && draws.nextInt(8) > 0 ? 0 : a;
                same("of(" + a + ", " + what + ")", own.of(a, what), oracle.of(a, what));
                break;
            case 5: case 6: case 7:
                feel(ab, within(-9, 9));
                break;
            case 8: case 9:
                same("feeling(" + ab + ")", own.feeling(ab), oracle.feeling(ab));
                break;
            case 10:
                feed(within(0, 255));
                break;
            default:
                if (draws.nextInt(3) == 0) {
                    tellLaw();
                }
        }
    }

    private void callThought() {
        int a = draws.nextInt(4) == 0 ? -1 : one();
        int ab = pair();
        int n = within(0, 40);
        int what = within(0, 2);
        int v = within(-9, 9);
        switch (draws.nextInt(12)) {
            case 0: same("paired(" + a + ")", own.paired(a), oracle.paired(a)); break;
            case 1: same("harm(" + a + ")", own.harm(a), oracle.harm(a)); break;
            case 2:
                a = what == 0 ? oneOf(0, 0, 0, 1) : a;
                same("lacks(" + a + ", " + what + ")", own.lacks(a, what), oracle.lacks(a, what));
                break;
            case 3: case 4: same("later(" + n + ", " + a + ")", own.later(n, a), oracle.later(n, a)); break;
            case 5: same("feltLater(" + n + ", " + ab + ")", own.feltLater(n, ab), oracle.feltLater(n, ab)); break;
            case 6: same("lasts(" + a + ")", own.lasts(a), oracle.lasts(a)); break;
            case 7: same("renewed(" + ab + ", " + v + ")", own.renewed(ab, v), oracle.renewed(ab, v)); break;
            case 8:
                what = within(0, 1);
                same("worth(" + a + ", " + n + ", " + what + ")", own.worth(a, n, what), oracle.worth(a, n, what));
                break;
            case 9: same("ring()", own.ring(), oracle.ring()); break;
            case 10:
                n = within(1, 5);
                what = within(0, 1);
                same("byTurns(" + ab + ", " + n + ", " + what + ")", own.byTurns(ab, n, what), oracle.byTurns(ab, n, what));
                break;
            default:
                int seed = draws.nextInt();
                int nmw = draws.nextInt(20) == 0 ? draws.nextInt()
                    : 10000 * within(1, 20) + 100 * within(1, 20) + within(0, 12);
                same("drawn(" + seed + ", " + nmw + ", " + a + ")", own.drawn(seed, nmw, a), oracle.drawn(seed, nmw, a));
        }
    }

    private void callDeed() {
        int ab = pair();
        int c = one();
        int v = within(1, 9);
        switch (draws.nextInt(14)) {
            case 0: case 1: same("day()", own.day(), oracle.day()); break;
            case 2: same("wrong(" + ab + ", " + v + ")", own.wrong(ab, v), oracle.wrong(ab, v)); break;
            case 3: case 4: same("lease(" + ab + ", " + c + ")", own.lease(ab, c), oracle.lease(ab, c)); break;
            case 5:
                v = within(1, 99);
                same("gift(" + ab + ", " + v + ")", own.gift(ab, v), oracle.gift(ab, v));
                break;
            case 6: case 7:
                int i = draws.nextInt(8) == 0 ? within(-1, 72) : draws.nextInt(30);
                same("tale(" + i + ")", own.tale(i), oracle.tale(i));
                break;
            case 8:
                int what = within(0, 5);
                same("led(" + what + ")", own.led(what), oracle.led(what));
                break;
            case 9: same("image()", own.image(), oracle.image()); break;
            case 10: same("back()", own.back(), oracle.back()); break;
            case 11: case 12: same("undo()", own.undo(), oracle.undo()); break;
            default: same("redo()", own.redo(), oracle.redo());
        }
    }

    private void callAct() {
        int body = within(0, Math.max(0, oracle.count(3) - 1));
        int x = draws.nextInt(4) == 0 ? draws.nextInt() : draws.nextInt(40) - 20;
        int k = within(0, 7);
        switch (draws.nextInt(8)) {
            case 0: same("body(" + k + ")", own.body(k), oracle.body(k)); break;
            case 1: case 2: case 3:
                int act = within(0, 3);
                same("act(" + body + ", " + act + ", " + x + ")", own.act(body, act, x), oracle.act(body, act, x));
                break;
            case 4:
                for (int i = 0; i < 15 && calls < MOST_CALLS; i++) {
                    same("trace(" + i + ")", own.trace(i), oracle.trace(i));
                }
                break;
            case 5:
                int what = within(0, 5);
                same("count(" + what + ")", own.count(what), oracle.count(what));
                break;
            case 6:
                int shelf = within(0, 5);
                body = draws.nextInt(3) == 0 ? -1 : body;
                same("keep(" + shelf + ", " + body + ")", own.keep(shelf, body), oracle.keep(shelf, body));
                break;
            default:
                int from = within(0, 5);
                same("taken(" + from + ", " + k + ")", own.taken(from, k), oracle.taken(from, k));
        }
    }

    private void callShelf() {
        int s = within(0, 5);
        int t = draws.nextInt(3) == 0 ? s : within(0, 5);
        int i = within(0, 6);
        int j = within(0, 6);
        int n = within(0, 5);
        long v = draws.nextInt(3) == 0 ? draws.nextLong() : draws.nextInt(300) - 100;
        switch (draws.nextInt(9)) {
            case 0: row(s, within(0, 4), draws.nextInt(3) == 0 ? within(0, 60) : within(0, 8)); break;
            case 1: case 2: put(s, i, v); break;
            case 3: case 4:
                same("element(" + s + ", " + i + ")", own.element(s, i), oracle.element(s, i));
                break;
            case 5: case 6:
                same("shift(" + s + ", " + i + ", " + t + ", " + j + ", " + n + ")", own.shift(s, i, t, j, n),
                    oracle.shift(s, i, t, j, n));
                break;
            case 7: layRow(); break;
            default: layPeople();
        }
    }
}
