import java.util.ArrayDeque;
import java.util.ArrayList;
import java.util.Arrays;
import java.util.Deque;
import java.util.List;

/**
 * The document once more, by other ways than the program's: laws read anew from their text each time, all pairings
 * and all plays tried, needles as classes, rows as the host's own arrays. Slow, plain, for comparison alone.
 */
final class Oracle {
    private static final int BAD = -1, NOT = -2, FULL = -3, STATE = -5;

    private static final class Person {
        int hunger, wants;
        final int[] feels = new int[8];
    }

    private static final class World {
        final List<Person> people = new ArrayList<>();
        int softens = 1, fades = 0, grows = 6, day = 0;

        World copy() {
            World w = new World();
            w.softens = softens;
            w.fades = fades;
            w.grows = grows;
            w.day = day;
            for (Person p : people) {
                Person q = new Person();
                q.hunger = p.hunger;
                q.wants = p.wants;
                System.arraycopy(p.feels, 0, q.feels, 0, 8);
                w.people.add(q);
            }
            return w;
        }
    }

    private record Sale(int buyer, int weigher, int friend, int out) { }

    private record Change(int number, int what, int was, int becomes) { }

    private World world = new World();
    private String tape = "";
    private String text = null;
    private String tale = "";
    private int[] led = new int[6];
    private World image = null;
    private int[] imageLed = null;
    private final Deque<Change> undo = new ArrayDeque<>();
    private final Deque<Change> redo = new ArrayDeque<>();
    private final List<Needle> needles = new ArrayList<>();
    private final List<Integer> trace = new ArrayList<>();
    private final Object[] shelves = new Object[6];

    // ---- the law

    private static final List<String> WORDS = List.of("hate", "love", "hunger", "want", "day", "done");

    /** One byte after the other by what may stand there: -1, or the fault. */
    static int faultOf(String t) {
        Deque<Character> open = new ArrayDeque<>();
        Deque<Boolean> compared = new ArrayDeque<>();
        compared.push(false);
        boolean wantsOperand = true;
        boolean asked = false;
        int i = 0;
        while (i < t.length()) {
            char c = t.charAt(i);
            if (wantsOperand) {
                if (c == '(' || c == '!' || c == '-') {
                    if (open.size() == 6) {
                        return i;
                    }
                    open.push(c);
                    if (c == '(') {
                        compared.push(false);
                    }
                    i++;
                    continue;
                }
                int j = i;
                if (c >= '0' && c <= '9') {
                    while (j < t.length() && j < i + 4 && t.charAt(j) >= '0' && t.charAt(j) <= '9') {
                        j++;
                    }
                } else {
                    while (j < t.length() && t.charAt(j) >= 'a' && t.charAt(j) <= 'z') {
                        j++;
                    }
                    if (!WORDS.contains(t.substring(i, j))) {
                        return i;
                    }
                }
                i = j;
                wantsOperand = false;
                closePrefixes(open);
                continue;
            }
            if (c == ')') {
                if (open.isEmpty()) {
                    return i;
                }
                open.pop();
                compared.pop();
                closePrefixes(open);
                i++;
                continue;
            }
            wantsOperand = true;
            if ("<>=".indexOf(c) >= 0) {
                if (compared.pop()) {
                    return i;
                }
                compared.push(true);
            } else if ("|&".indexOf(c) >= 0) {
                compared.pop();
                compared.push(false);
            } else if (c == '?' && !asked && open.isEmpty() || c == ';' && open.isEmpty()) {
                asked = c == '?';
                compared.pop();
                compared.push(false);
            } else if ("+-*/%".indexOf(c) < 0) {
                return i;
            }
            i++;
        }
        return wantsOperand || !open.isEmpty() ? t.length() : -1;
    }

    private static void closePrefixes(Deque<Character> open) {
        while (!open.isEmpty() && open.peek() != '(') {
            open.pop();
        }
    }

    /** Worked out from the text itself, split at the loosest sign that stands outside of parentheses. */
    static int lawOf(String t, int[] w) {
        for (String line : t.split(";")) {
            int ask = line.indexOf('?');
            if (ask < 0) {
                return value(line, w);
            }
            if (value(line.substring(0, ask), w) != 0) {
                return value(line.substring(ask + 1), w);
            }
        }
        return 0;
    }

    private static int value(String e, int[] w) {
        for (String signs : new String[]{"|", "&", "<=>", "+-", "*/%"}) {
            int at = lastJoin(e, signs);
            if (at >= 0) {
                return join(e.charAt(at), value(e.substring(0, at), w), value(e.substring(at + 1), w));
            }
        }
        char c = e.charAt(0);
        if (c == '!') {
            return value(e.substring(1), w) == 0 ? 1 : 0;
        }
        if (c == '-') {
            return -value(e.substring(1), w);
        }
        if (c == '(') {
            return value(e.substring(1, e.length() - 1), w);
        }
        return c >= 'a' ? w[WORDS.indexOf(e)] : Integer.parseInt(e);
    }

    private static int lastJoin(String e, String signs) {
        int depth = 0;
        for (int i = e.length() - 1; i > 0; i--) {
            char c = e.charAt(i);
            depth += c == ')' ? 1 : c == '(' ? -1 : 0;
            char before = e.charAt(i - 1);
            boolean joins = before == ')' || before >= '0' && before <= '9' || before >= 'a' && before <= 'z';
            if (depth == 0 && joins && signs.indexOf(c) >= 0) {
                return i;
            }
        }
        return -1;
    }

    private static int join(char c, int a, int b) {
        switch (c) {
            case '|': return a != 0 || b != 0 ? 1 : 0;
            case '&': return a != 0 && b != 0 ? 1 : 0;
            case '<': return a < b ? 1 : 0;
            case '=': return a == b ? 1 : 0;
            case '>': return a > b ? 1 : 0;
            case '+': return a + b;
            case '-': return a - b;
            case '*': return a * b;
            case '/': return b == 0 ? 0 : (int) ((long) a / b);
            default: return b == 0 ? 0 : (int) ((long) a % b);
        }
    }

    private int weighed(World w, int weigher, int friend, int buyer, int done) {
        Person b = w.people.get(buyer);
        int hate = -w.people.get(weigher).feels[buyer];
        int love = w.people.get(friend).feels[buyer];
        int out = text == null ? 8 + b.wants - hate
            : lawOf(text, new int[]{hate, love, b.hunger, b.wants, w.day, done});
        return Math.max(0, Math.min(50, out));
    }

    // ---- a day

    private static int friend(World w, int buyer, int weigher) {
        int best = 8;
        for (int f = w.people.size() - 1; f >= 0; f--) {
            int felt = w.people.get(f).feels[buyer];
            if (f != weigher && felt > 0 && (best == 8 || felt >= w.people.get(best).feels[buyer])) {
                best = f;
            }
        }
        return best;
    }

    private List<Sale> pass(World w) {
        List<Sale> sales = new ArrayList<>();
        List<Integer> order = new ArrayList<>();
        for (int i = 0; i < w.people.size(); i++) {
            order.add(i);
        }
        order.sort((a, b) -> w.people.get(b).hunger - w.people.get(a).hunger);
        boolean[] hasWeighed = new boolean[8];
        boolean[] isFed = new boolean[8];
        for (int buyer : order) {
            Sale best = null;
            for (int who = 0; who < w.people.size(); who++) {
                int friend = friend(w, buyer, who);
                if (w.people.get(who).feels[buyer] < 0 && !hasWeighed[who] && friend != 8) {
                    int out = weighed(w, who, friend, buyer, sales.size());
                    if (best == null || out > best.out) {
                        best = new Sale(buyer, who, friend, out);
                    }
                }
            }
            if (best != null) {
                Person p = w.people.get(buyer);
                p.hunger = Math.max(0, p.hunger - best.out);
                int[] feels = w.people.get(best.weigher).feels;
                feels[buyer] = Math.min(9, feels[buyer] + w.softens);
                hasWeighed[best.weigher] = true;
                isFed[buyer] = true;
                sales.add(best);
            }
        }
        for (int i = 0; i < w.people.size(); i++) {
            Person p = w.people.get(i);
            p.hunger = isFed[i] ? p.hunger : Math.min(99, p.hunger + w.grows);
        }
        w.day = Math.min(99, w.day + 1);
        if (w.fades != 0 && w.day % w.fades == 0) {
            for (Person p : w.people) {
                for (int i = 0; i < 8; i++) {
                    p.feels[i] += p.feels[i] > 0 ? -1 : p.feels[i] < 0 ? 1 : 0;
                }
            }
        }
        return sales;
    }

    private static int weigher(List<Sale> sales, int one) {
        for (Sale s : sales) {
            if (s.buyer == one) {
                return s.weigher;
            }
        }
        return 8;
    }

    // ---- people

    private boolean has(int one) {
        return one >= 0 && one < world.people.size();
    }

    private boolean pair(int ab) {
        return ab >= 0 && has(ab / 10) && has(ab % 10) && ab / 10 != ab % 10;
    }

    private int come(int hunger, int wants) {
        if (world.people.size() == 8) {
            return FULL;
        }
        Person p = new Person();
        p.hunger = hunger;
        p.wants = wants;
        world.people.add(p);
        return world.people.size() - 1;
    }

    private static boolean isPerson(int hunger, int wants) {
        return hunger >= 0 && hunger <= 99 && wants >= 0 && wants <= 9;
    }

    int person(int hunger, int wants) {
        return isPerson(hunger, wants) ? come(hunger, wants) : BAD;
    }

    int people(int shelf, int i, int n) {
        if (shelf < 0 || shelf > 5 || n < 1 || n > 8) {
            return BAD;
        }
        if (shelves[shelf] == null) {
            return 0;
        }
        if (!(shelves[shelf] instanceof byte[] row)) {
            return -12;
        }
        int came = 0;
        for (long at = i; came < n; at += 2, came++) {
            if (at < 0 || at + 1 >= row.length || !isPerson(row[(int) at], row[(int) at + 1])
                || come(row[(int) at], row[(int) at + 1]) < 0) {
                break;
            }
        }
        return came;
    }

    private int read(int number, int what) {
        switch (what) {
            case 0: return world.people.get(number).hunger;
            case 1: return world.people.get(number).wants;
            case 2: return world.softens;
            case 3: return world.fades;
            case 4: return world.grows;
            case 5: return world.day;
            default: return world.people.get(number / 10).feels[number % 10];
        }
    }

    private void write(int number, int what, int v) {
        switch (what) {
            case 0: world.people.get(number).hunger = v; break;
            case 1: world.people.get(number).wants = v; break;
            case 2: world.softens = v; break;
            case 3: world.fades = v; break;
            case 4: world.grows = v; break;
            case 5: world.day = v; break;
            default: world.people.get(number / 10).feels[number % 10] = v;
        }
    }

    private int change(int number, int what, int v) {
        int was = read(number, what);
        if (was != v) {
            write(number, what, v);
            undo.push(new Change(number, what, was, v));
            redo.clear();
            if (undo.size() > 40) {
                undo.removeLast();
            }
        }
        return was;
    }

    private boolean isNumber(int number, int what) {
        return what == 0 || what == 1 ? has(number) : what >= 2 && what <= 5 && number == 0;
    }

    int mend(int number, int what, int v) {
        int[] most = {99, 9, 3, 9, 20, 99};
        return isNumber(number, what) && v >= 0 && v <= most[what] ? change(number, what, v) : BAD;
    }

    int of(int number, int what) {
        return isNumber(number, what) ? read(number, what) : BAD;
    }

    int feel(int ab, int v) {
        return pair(ab) && v >= -9 && v <= 9 ? change(ab, 6, v) + 100 : BAD;
    }

    int feeling(int ab) {
        return pair(ab) ? read(ab, 6) + 100 : BAD;
    }

    int feed(int letter) {
        if (letter < 0 || letter > 255) {
            return BAD;
        }
        if (tape.length() == 160) {
            return FULL;
        }
        tape += (char) letter;
        return tape.length();
    }

    int law() {
        int fault = faultOf(tape);
        if (fault < 0) {
            text = tape;
        }
        tape = "";
        return fault < 0 ? 1 : -100 - fault;
    }

    // ---- today, days in thought

    private int[] bestWay;
    private int bestScore;

    private void tryWays(int buyer, int[] way, boolean[] taken, int score, boolean isHarm) {
        int people = world.people.size();
        if (buyer == people) {
            if (bestWay == null || score < bestScore) {
                bestWay = Arrays.copyOf(way, people);
                bestScore = score;
            }
            return;
        }
        for (int who = 0; who < people; who++) {
            int felt = world.people.get(who).feels[buyer];
            if (who != buyer && !taken[who] && friend(world, buyer, who) != 8 && (isHarm || felt < 0)) {
                taken[who] = true;
                way[buyer] = who;
                tryWays(buyer + 1, way, taken, score + (felt < 0 ? 0 : 1 + felt), isHarm);
                taken[who] = false;
            }
        }
        if (!isHarm) {
            way[buyer] = 8;
            tryWays(buyer + 1, way, taken, score + 1, false);
        }
    }

    private void ways(boolean isHarm) {
        bestWay = null;
        bestScore = 0;
        tryWays(0, new int[8], new boolean[8], 0, isHarm);
    }

    int paired(int one) {
        if (one != -1 && !has(one)) {
            return BAD;
        }
        ways(false);
        return one == -1 ? world.people.size() - bestScore : bestWay[one];
    }

    int harm(int one) {
        if (one != -1 && !has(one)) {
            return BAD;
        }
        ways(true);
        return bestWay == null ? NOT : one == -1 ? bestScore : bestWay[one];
    }

    private int feelers(int one, int sign) {
        int many = 0;
        for (Person p : world.people) {
            many += Integer.signum(p.feels[one]) == sign ? 1 : 0;
        }
        return many;
    }

    int lacks(int one, int what) {
        if (what == 0 && one == 0) {
            int bits = 0;
            for (int i = 0; i < world.people.size(); i++) {
                bits += feelers(i, 1) == 0 ? 1 << i : 0;
            }
            return bits;
        }
        return what == 1 && has(one) ? feelers(one, 1) : what == 2 && has(one) ? feelers(one, -1) : BAD;
    }

    int later(int n, int one) {
        if (n < 0 || n > 40 || one != -1 && !has(one)) {
            return BAD;
        }
        World w = world.copy();
        int fed = 0;
        for (int i = 0; i < n; i++) {
            fed += pass(w).size();
        }
        return one == -1 ? fed : w.people.get(one).hunger;
    }

    int feltLater(int n, int ab) {
        if (n < 0 || n > 40 || !pair(ab)) {
            return BAD;
        }
        World w = world.copy();
        for (int i = 0; i < n; i++) {
            pass(w);
        }
        return w.people.get(ab / 10).feels[ab % 10] + 100;
    }

    private int lasting(World w, int one) {
        int days = 0;
        while (days < 40 && weigher(pass(w), one) != 8) {
            days++;
        }
        return days;
    }

    int lasts(int one) {
        return has(one) ? lasting(world.copy(), one) : BAD;
    }

    int renewed(int ab, int v) {
        if (!pair(ab) || v < -9 || v > 9) {
            return BAD;
        }
        World w = world.copy();
        w.people.get(ab / 10).feels[ab % 10] = v;
        return lasting(w, ab % 10);
    }

    int worth(int one, int n, int what) {
        if (!has(one) || n < 0 || n > 40 || what < 0 || what > 1) {
            return BAD;
        }
        int whose = NOT;
        int least = NOT;
        for (int who = world.people.size() - 1; who >= 0; who--) {
            if (who == one) {
                continue;
            }
            World w = world.copy();
            w.people.get(who).feels[one] = -9;
            for (int i = 0; i < n; i++) {
                pass(w);
            }
            int hunger = w.people.get(one).hunger;
            if (whose == NOT || hunger <= least) {
                whose = who;
                least = hunger;
            }
        }
        return what == 0 ? whose : least;
    }

    private int chain(int first, int last, boolean[] in, int length) {
        if (length > 1 && world.people.get(last).feels[first] < 0) {
            return length;
        }
        int best = 99;
        for (int next = 0; next < world.people.size(); next++) {
            if (!in[next] && world.people.get(last).feels[next] < 0) {
                in[next] = true;
                best = Math.min(best, chain(first, next, in, length + 1));
                in[next] = false;
            }
        }
        return best;
    }

    int ring() {
        int best = 99;
        for (int i = 0; i < world.people.size(); i++) {
            boolean[] in = new boolean[8];
            in[i] = true;
            best = Math.min(best, chain(i, i, in, 1));
        }
        return best == 99 ? NOT : best;
    }

    // ---- what was seen

    private int firstUnlike(World w, byte[] row, int one) {
        for (int i = 0; i < row.length && i < 40; i++) {
            int by = weigher(pass(w), one);
            if (row[i] != 9 && row[i] != by) {
                return i;
            }
        }
        return NOT;
    }

    int judge(int shelf, int one) {
        if (shelf < 0 || shelf > 5 || !has(one)) {
            return BAD;
        }
        if (shelves[shelf] == null) {
            return -11;
        }
        return shelves[shelf] instanceof byte[] row ? firstUnlike(world.copy(), row, one) : -12;
    }

    int fits(int shelf, int ab, int what) {
        if (shelf < 0 || shelf > 5 || !pair(ab) || what < 0 || what > 2) {
            return BAD;
        }
        if (shelves[shelf] == null) {
            return -11;
        }
        if (!(shelves[shelf] instanceof byte[] row)) {
            return -12;
        }
        List<Integer> all = new ArrayList<>();
        for (int v = what == 2 ? 0 : -9; v <= (what == 2 ? 99 : 9); v++) {
            World w = world.copy();
            if (what == 2) {
                w.people.get(ab % 10).hunger = v;
            } else {
                w.people.get(ab / 10).feels[ab % 10] = v;
            }
            if (firstUnlike(w, row, ab % 10) == NOT) {
                all.add(v);
            }
        }
        return what != 1 ? all.size() : all.isEmpty() ? NOT : all.get(0) + 100;
    }

    private int play(int a, int b, int felt, int turn, int n) {
        if (turn == n) {
            World w = world.copy();
            w.people.get(b).feels[a] = felt;
            pass(w);
            return w.people.get(a).hunger;
        }
        int still = play(a, b, felt, turn + 1, n);
        int moved = play(a, b, turn % 2 == 0 ? Math.max(-9, felt - 2) : Math.min(9, felt + 2), turn + 1, n);
        return turn % 2 == 0 ? Math.min(still, moved) : Math.max(still, moved);
    }

    int byTurns(int ab, int n, int what) {
        if (!pair(ab) || n < 1 || n > 5 || what < 0 || what > 1) {
            return BAD;
        }
        int a = ab / 10;
        int b = ab % 10;
        int felt = world.people.get(b).feels[a];
        if (what == 0) {
            return play(a, b, felt, 0, n);
        }
        return play(a, b, Math.max(-9, felt - 2), 1, n) < play(a, b, felt, 1, n) ? 1 : 0;
    }

    int drawn(int seed, int nmw, int one) {
        int n = Math.floorDiv(nmw, 10000);
        int m = Math.floorMod(nmw, 10000) / 100;
        int wrath = Math.floorMod(nmw, 100);
        if (n < 1 || n > 20 || m < 1 || m > 20 || wrath > 12 || one != -1 && !has(one)) {
            return BAD;
        }
        int z = seed;
        int all = 0;
        int many = world.people.size();
        for (int i = 0; i < n; i++) {
            World w = world.copy();
            for (int d = 0; d < m; d++) {
                z = z * 1103515245 + 12345;
                if (many >= 2 && (z >>> 16) % 12 < wrath) {
                    int who = (z >>> 8) % many;
                    int whom = (who + 1 + (z >>> 4) % (many - 1)) % many;
                    w.people.get(who).feels[whom] = -5;
                }
                int fed = pass(w).size();
                all += one == -1 ? fed : 0;
            }
            all += one == -1 ? 0 : w.people.get(one).hunger;
        }
        return all;
    }

    // ---- in deed

    int day() {
        List<Sale> sales = pass(world);
        tale = "";
        for (Sale s : sales) {
            tale += s.buyer + "<" + s.weigher + "|" + s.friend + ":" + s.out + ";";
        }
        led[0]++;
        led[1] += sales.size();
        led[2] += world.people.size() - sales.size();
        return sales.size();
    }

    int wrong(int ab, int v) {
        if (!pair(ab) || v < 1 || v > 9) {
            return BAD;
        }
        int[] feels = world.people.get(ab % 10).feels;
        feels[ab / 10] = Math.max(-9, feels[ab / 10] - v);
        led[3]++;
        return feels[ab / 10] + 100;
    }

    int lease(int ab, int c) {
        if (!pair(ab) || !has(c) || c == ab / 10 || c == ab % 10) {
            return BAD;
        }
        int felt = world.people.get(ab % 10).feels[c];
        if (felt >= 0) {
            return STATE;
        }
        world.people.get(ab / 10).feels[c] = felt;
        world.people.get(ab % 10).feels[c] = 0;
        led[4]++;
        return felt + 100;
    }

    int gift(int ab, int v) {
        if (!pair(ab) || v < 1 || v > 99) {
            return BAD;
        }
        Person a = world.people.get(ab / 10);
        Person b = world.people.get(ab % 10);
        a.hunger = Math.min(99, a.hunger + v);
        b.hunger = Math.max(0, b.hunger - v);
        led[5]++;
        return a.hunger;
    }

    int tale(int i) {
        return i < -1 ? BAD : i == -1 ? tale.length() : i < tale.length() ? tale.charAt(i) : NOT;
    }

    int led(int what) {
        return what >= 0 && what < 6 ? led[what] : BAD;
    }

    int image() {
        image = world.copy();
        imageLed = led.clone();
        return led[0];
    }

    int back() {
        if (image == null) {
            return STATE;
        }
        for (int i = 0; i < image.people.size(); i++) {
            world.people.get(i).hunger = image.people.get(i).hunger;
            System.arraycopy(image.people.get(i).feels, 0, world.people.get(i).feels, 0, image.people.size());
        }
        world.day = image.day;
        led = imageLed.clone();
        return led[0];
    }

    int undo() {
        if (undo.isEmpty()) {
            return STATE;
        }
        Change c = undo.pop();
        write(c.number, c.what, c.was);
        redo.push(c);
        return undo.size();
    }

    int redo() {
        if (redo.isEmpty()) {
            return STATE;
        }
        Change c = redo.pop();
        write(c.number, c.what, c.becomes);
        undo.push(c);
        return redo.size();
    }

    // ---- acts, shelves

    private interface Weighs {
        int n();

        void ran(int body);

        default int weighs(int x) {
            ran(1);
            return x + n();
        }
    }

    private class Needle implements Weighs {
        final int kind;
        private final int n = needles.size();

        Needle(int kind) {
            this.kind = kind;
        }

        public int n() {
            return n;
        }

        public void ran(int body) {
            trace.add(body);
        }

        int hates(int x) {
            ran(10);
            return weighs(x) * 2;
        }

        int stands(int x) {
            ran(11);
            return x ^ n;
        }

        int tells(int x) {
            ran(2);
            return hates(x) - stands(1);
        }
    }

    private class Scorn extends Needle {
        Scorn(int kind) {
            super(kind);
        }

        @Override
        public int weighs(int x) {
            ran(20);
            return super.weighs(x) + 3;
        }
    }

    private class Strange extends Needle {
        Strange(int kind) {
            super(kind);
        }

        @Override
        int hates(int x) {
            ran(30);
            return -super.hates(x);
        }
    }

    private class Leased extends Strange {
        Leased(int kind) {
            super(kind);
        }

        @Override
        int stands(int x) {
            ran(40);
            return super.stands(x) * 3;
        }

        @Override
        int hates(int x) {
            ran(41);
            return super.hates(x + 1);
        }
    }

    private class Night extends Scorn {
        Night(int kind) {
            super(kind);
        }

        @Override
        int stands(int x) {
            ran(50);
            return super.stands(x) - weighs(2);
        }
    }

    private class Just extends Leased {
        Just(int kind) {
            super(kind);
        }

        @Override
        int tells(int x) {
            ran(60);
            return super.tells(x) ^ 5;
        }
    }

    private class Coffee extends Needle {
        Coffee(int kind) {
            super(kind);
        }

        @Override
        public int weighs(int x) {
            ran(70);
            return super.weighs(x) * 2;
        }
    }

    private class Pinch extends Night {
        Pinch(int kind) {
            super(kind);
        }

        @Override
        int hates(int x) {
            ran(80);
            return super.hates(x) + stands(2);
        }

        @Override
        int tells(int x) {
            ran(81);
            return super.tells(x) - 1;
        }
    }

    int body(int kind) {
        if (kind < 0 || kind > 7) {
            return BAD;
        }
        if (needles.size() == 50) {
            return FULL;
        }
        Needle made;
        switch (kind) {
            case 0: made = new Needle(0); break;
            case 1: made = new Scorn(1); break;
            case 2: made = new Strange(2); break;
            case 3: made = new Leased(3); break;
            case 4: made = new Night(4); break;
            case 5: made = new Just(5); break;
            case 6: made = new Coffee(6); break;
            default: made = new Pinch(7);
        }
        needles.add(made);
        return needles.size() - 1;
    }

    int act(int body, int act, int x) {
        trace.clear();
        if (body < 0 || body >= needles.size()) {
            return 0;
        }
        Needle n = needles.get(body);
        switch (act) {
            case 0: return n.weighs(x);
            case 1: return n.hates(x);
            case 2: return n.stands(x);
            case 3: return n.tells(x);
            default: return 0;
        }
    }

    int trace(int i) {
        return i >= 0 && i < 24 && i < trace.size() ? trace.get(i) : BAD;
    }

    int keep(int shelf, int body) {
        if (shelf < 0 || shelf > 5 || body < -1 || body >= needles.size()) {
            return BAD;
        }
        shelves[shelf] = body == -1 ? null : needles.get(body);
        return 1;
    }

    int row(int shelf, int sort, int n) {
        if (shelf < 0 || shelf > 5 || sort < 0 || sort > 4 || n > 60) {
            return BAD;
        }
        try {
            switch (sort) {
                case 0: shelves[shelf] = new byte[n]; break;
                case 1: shelves[shelf] = new short[n]; break;
                case 2: shelves[shelf] = new int[n]; break;
                case 3: shelves[shelf] = new long[n]; break;
                default: shelves[shelf] = new boolean[n];
            }
        } catch (NegativeArraySizeException e) {
            return -14;
        }
        return 1;
    }

    private int refusal(int shelf, int i) {
        Object held = shelves[shelf];
        if (held == null) {
            return -11;
        }
        if (held instanceof Needle) {
            return -12;
        }
        return i >= 0 && i < java.lang.reflect.Array.getLength(held) ? 0 : -13;
    }

    int put(int shelf, int i, long v) {
        if (shelf < 0 || shelf > 5) {
            return BAD;
        }
        int refusal = refusal(shelf, i);
        if (refusal != 0) {
            return refusal;
        }
        Object held = shelves[shelf];
        if (held instanceof byte[] row) {
            row[i] = (byte) v;
        } else if (held instanceof short[] row) {
            row[i] = (short) v;
        } else if (held instanceof int[] row) {
            row[i] = (int) v;
        } else if (held instanceof long[] row) {
            row[i] = v;
        } else if (held instanceof boolean[] row) {
            row[i] = v != 0;
        }
        return 1;
    }

    long element(int shelf, int i) {
        if (shelf < 0 || shelf > 5 || refusal(shelf, i) != 0) {
            return Long.MIN_VALUE;
        }
        Object held = shelves[shelf];
        return held instanceof boolean[] row ? (row[i] ? 1 : 0) : java.lang.reflect.Array.getLong(held, i);
    }

    @SuppressWarnings("SuspiciousSystemArraycopy")
    int shift(int shelf, int i, int other, int j, int n) {
        if (shelf < 0 || shelf > 5 || other < 0 || other > 5) {
            return BAD;
        }
        try {
            System.arraycopy(shelves[shelf], i, shelves[other], j, n);
            return n;
        } catch (NullPointerException e) {
            return -11;
        } catch (ArrayStoreException e) {
            return -12;
        } catch (IndexOutOfBoundsException e) {
            return -13;
        }
    }

    private boolean isOf(Needle needle, int k) {
        Class<?>[] kinds = {Needle.class, Scorn.class, Strange.class, Leased.class, Night.class, Just.class,
            Coffee.class, Pinch.class};
        return kinds[k].isInstance(needle);
    }

    int taken(int shelf, int k) {
        if (shelf < 0 || shelf > 5 || k < 0 || k > 7) {
            return BAD;
        }
        if (shelves[shelf] == null) {
            return -11;
        }
        return shelves[shelf] instanceof Needle needle && isOf(needle, k) ? needle.kind : -12;
    }

    int count(int what) {
        switch (what) {
            case 0: return world.people.size();
            case 1: return tape.length();
            case 2: return undo.size();
            case 3: return needles.size();
            case 4: return trace.size();
            case 5:
                int below = 0;
                for (int i = 0; i < world.people.size(); i++) {
                    below += feelers(i, -1);
                }
                return below;
            default: return BAD;
        }
    }

    // ---- for those who make tests out of it

    int people() {
        return world.people.size();
    }

    /** By whom one is weighed for on days from now on. */
    int[] seenOf(int one, int days) {
        World w = world.copy();
        int[] by = new int[days];
        for (int i = 0; i < days; i++) {
            by[i] = weigher(pass(w), one);
        }
        return by;
    }
}
