/**
 * A bazaar where nothing is bought but an enemy of the buyer weighs it, and a friend of the buyer's stands by.
 * What each call answers is told, promise by promise, in the project's document.
 */
public final class ScalesByHate {
    public static final int BAD = -1, NOT = -2, FULL = -3, STATE = -5, VOID = -2000000000;

    private static final int NOTHING_THERE = -11, OTHER_KIND = -12, NO_SUCH_PLACE = -13, SIZE_BELOW_NONE = -14;

    private static final int MOST_PEOPLE = 8;
    /** Stands above all numbers of people, so that the least of like ways names somebody where it can. */
    private static final int NOBODY = 8;
    private static final int MOST_FEELING = 9;
    private static final int MOST_HUNGER = 99;
    private static final int MOST_WANTS = 9;
    private static final int MOST_DAYS = 40;
    /** Lifts a feeling in an answer, since a feeling below 0 would look like a refusal. */
    private static final int LIFT = 100;

    private final Bazaar bazaar;
    private final LawReader reader;
    private final Law rule;
    private final Thought thought;
    private final Pairing pairing;
    private final Round today;
    private final Book book;
    private final Changes changes;
    private final Needles needles;
    private final Shelves shelves;

    public ScalesByHate() {
        bazaar = new Bazaar();
        reader = new LawReader();
        rule = new Law();
        shelves = new Shelves();
        thought = new Thought(bazaar, rule, shelves);
        pairing = new Pairing(bazaar);
        today = new Round();
        book = new Book();
        changes = new Changes();
        needles = new Needles();
    }

    // ---- people

    public int person(int hunger, int wants) {
        return Bazaar.mayCome(hunger, wants) ? bazaar.admit(hunger, wants) : BAD;
    }

    public int people(int shelf, int i, int n) {
        if (!shelves.has(shelf) || n < 1 || n > MOST_PEOPLE) {
            return BAD;
        }
        if (shelves.isBare(shelf)) {
            return 0;
        }
        if (!shelves.holdsBytes(shelf)) {
            return OTHER_KIND;
        }
        int came = 0;
        for (int place = i; came < n && place >= 0 && place < shelves.sizeOf(shelf) - 1; place += 2) {
            int hunger = (int) shelves.at(shelf, place);
            int wants = (int) shelves.at(shelf, place + 1);
            if (!Bazaar.mayCome(hunger, wants) || bazaar.admit(hunger, wants) == FULL) {
                break;
            }
            came++;
        }
        return came;
    }

    public int mend(int number, int what, int v) {
        int place = bazaar.placeOf(number, what);
        if (place < 0 || v < 0 || v > Bazaar.mostOf(what)) {
            return BAD;
        }
        return changeTo(place, v);
    }

    public int of(int number, int what) {
        int place = bazaar.placeOf(number, what);
        return place < 0 ? BAD : bazaar.numberAt(place);
    }

    public int feel(int ab, int v) {
        if (!bazaar.hasPair(ab) || !Bazaar.isFeeling(v)) {
            return BAD;
        }
        return changeTo(Bazaar.placeOfFeeling(ab / 10, ab % 10), v) + LIFT;
    }

    public int feeling(int ab) {
        return bazaar.hasPair(ab) ? bazaar.felt(ab / 10, ab % 10) + LIFT : BAD;
    }

    public int feed(int letter) {
        return letter < 0 || letter > 255 ? BAD : reader.take(letter);
    }

    public int law() {
        int fault = reader.read();
        if (fault == LawReader.NO_FAULT) {
            rule.become(reader);
        }
        reader.clear();
        return fault == LawReader.NO_FAULT ? 1 : -100 - fault;
    }

    private int changeTo(int place, int v) {
        int was = bazaar.numberAt(place);
        if (was != v) {
            changes.add(place, was, v);
            bazaar.setNumber(place, v);
        }
        return was;
    }

    // ---- today, days in thought

    public int paired(int one) {
        if (!isOneOrAll(one)) {
            return BAD;
        }
        pairing.asManyAsCanBe();
        return one == -1 ? bazaar.size - pairing.price() : pairing.weigherOf(one);
    }

    public int harm(int one) {
        if (!isOneOrAll(one)) {
            return BAD;
        }
        pairing.atLeastHarm();
        if (!pairing.isThereAWay()) {
            return NOT;
        }
        return one == -1 ? pairing.price() : pairing.weigherOf(one);
    }

    public int lacks(int one, int what) {
        if (what == 0) {
            return one == 0 ? bazaar.loveless() : BAD;
        }
        if (what < 0 || what > 2 || !bazaar.has(one)) {
            return BAD;
        }
        return what == 1 ? bazaar.loversOf(one) : bazaar.hatersOf(one);
    }

    public int later(int n, int one) {
        if (n < 0 || n > MOST_DAYS || !isOneOrAll(one)) {
            return BAD;
        }
        thought.begin();
        int fed = thought.goOn(n);
        return one == -1 ? fed : thought.world.hungerOf(one);
    }

    public int feltLater(int n, int ab) {
        if (n < 0 || n > MOST_DAYS || !bazaar.hasPair(ab)) {
            return BAD;
        }
        thought.begin();
        thought.goOn(n);
        return thought.world.felt(ab / 10, ab % 10) + LIFT;
    }

    public int lasts(int one) {
        if (!bazaar.has(one)) {
            return BAD;
        }
        thought.begin();
        return thought.daysFed(one);
    }

    public int renewed(int ab, int v) {
        if (!bazaar.hasPair(ab) || !Bazaar.isFeeling(v)) {
            return BAD;
        }
        thought.begin();
        thought.world.setFelt(ab / 10, ab % 10, v);
        return thought.daysFed(ab % 10);
    }

    public int worth(int one, int n, int what) {
        if (!bazaar.has(one) || n < 0 || n > MOST_DAYS || what < 0 || what > 1) {
            return BAD;
        }
        thought.seekWorth(one, n);
        if (thought.whoseWorth == NOBODY) {
            return NOT;
        }
        return what == 0 ? thought.whoseWorth : thought.hungerByWorth;
    }

    public int ring() {
        return bazaar.smallestRing();
    }

    private boolean isOneOrAll(int one) {
        return one == -1 || bazaar.has(one);
    }

    // ---- what was seen

    public int judge(int shelf, int one) {
        if (!shelves.has(shelf) || !bazaar.has(one)) {
            return BAD;
        }
        int refusal = shelves.refusalOfBytes(shelf);
        if (refusal != 0) {
            return refusal;
        }
        thought.begin();
        return thought.firstUnlike(shelf, one);
    }

    public int fits(int shelf, int ab, int what) {
        if (!shelves.has(shelf) || !bazaar.hasPair(ab) || what < 0 || what > 2) {
            return BAD;
        }
        int refusal = shelves.refusalOfBytes(shelf);
        if (refusal != 0) {
            return refusal;
        }
        int one = ab % 10;
        if (what == 2) {
            thought.tryNumbers(shelf, one, Bazaar.HUNGER + one, 0, MOST_HUNGER);
            return thought.fitting;
        }
        thought.tryNumbers(shelf, one, Bazaar.placeOfFeeling(ab / 10, one), -MOST_FEELING, MOST_FEELING);
        if (what == 0) {
            return thought.fitting;
        }
        return thought.fitting == 0 ? NOT : thought.leastFitting + LIFT;
    }

    public int byTurns(int ab, int n, int what) {
        if (!bazaar.hasPair(ab) || n < 1 || n > 5 || what < 0 || what > 1) {
            return BAD;
        }
        thought.playTurns(ab / 10, ab % 10, n);
        return what == 0 ? thought.hungerByTurns : thought.wrongsFirst;
    }

    public int drawn(int seed, int nmw, int one) {
        if (nmw < 0 || !isOneOrAll(one)) {
            return BAD;
        }
        int n = nmw / 10000;
        int m = nmw / 100 % 100;
        int wrath = nmw % 100;
        if (n < 1 || n > 20 || m < 1 || m > 20 || wrath > 12) {
            return BAD;
        }
        return thought.drawBazaars(seed, n, m, wrath, one);
    }

    // ---- in deed

    public int day() {
        int fed = today.goBy(bazaar, rule);
        book.tell(today, bazaar.size);
        return fed;
    }

    public int wrong(int ab, int v) {
        if (!bazaar.hasPair(ab) || v < 1 || v > 9) {
            return BAD;
        }
        int felt = Math.max(bazaar.felt(ab % 10, ab / 10) - v, -MOST_FEELING);
        bazaar.setFelt(ab % 10, ab / 10, felt);
        book.add(Book.WRONGS, 1);
        return felt + LIFT;
    }

    public int lease(int ab, int c) {
        int a = ab / 10;
        int b = ab % 10;
        if (!bazaar.hasPair(ab) || !bazaar.has(c) || c == a || c == b) {
            return BAD;
        }
        int felt = bazaar.felt(b, c);
        if (felt >= 0) {
            return STATE;
        }
        bazaar.setFelt(a, c, felt);
        bazaar.setFelt(b, c, 0);
        book.add(Book.LEASES, 1);
        return felt + LIFT;
    }

    public int gift(int ab, int v) {
        if (!bazaar.hasPair(ab) || v < 1 || v > 99) {
            return BAD;
        }
        bazaar.hungerMore(ab / 10, v);
        bazaar.hungerLess(ab % 10, v);
        book.add(Book.GIFTS, 1);
        return bazaar.hungerOf(ab / 10);
    }

    public int tale(int i) {
        if (i < -1) {
            return BAD;
        }
        return i == -1 ? book.taleLength() : book.taleByte(i);
    }

    public int led(int what) {
        return what < 0 || what >= Book.COUNTS ? BAD : book.told(what);
    }

    public int image() {
        book.keepImage(bazaar);
        return book.told(Book.DAYS);
    }

    public int back() {
        if (!book.hasImage()) {
            return STATE;
        }
        book.layBack(bazaar);
        return book.told(Book.DAYS);
    }

    public int undo() {
        if (changes.undoable() == 0) {
            return STATE;
        }
        changes.stepBack(bazaar);
        return changes.undoable();
    }

    public int redo() {
        if (changes.redoable() == 0) {
            return STATE;
        }
        changes.stepOn(bazaar);
        return changes.redoable();
    }

    // ---- acts, shelves

    public int body(int kind) {
        return Needles.isKind(kind) ? needles.add(kind) : BAD;
    }

    public int act(int body, int act, int x) {
        needles.forgetTrace();
        return needles.perform(body, act, x);
    }

    public int trace(int i) {
        return needles.traced(i);
    }

    public int keep(int shelf, int body) {
        if (!shelves.has(shelf) || body != -1 && !needles.has(body)) {
            return BAD;
        }
        if (body == -1) {
            shelves.holdNothing(shelf);
        } else {
            shelves.holdNeedle(shelf, body);
        }
        return 1;
    }

    public int row(int shelf, int sort, int n) {
        if (!shelves.has(shelf) || !Shelves.isSort(sort) || n > Shelves.MOST_ELEMENTS) {
            return BAD;
        }
        if (n < 0) {
            return SIZE_BELOW_NONE;
        }
        shelves.holdRow(shelf, sort, n);
        return 1;
    }

    public int put(int shelf, int i, long v) {
        if (!shelves.has(shelf)) {
            return BAD;
        }
        int refusal = shelves.refusalOfPlace(shelf, i);
        if (refusal != 0) {
            return refusal;
        }
        shelves.setAt(shelf, i, v);
        return 1;
    }

    public long element(int shelf, int i) {
        if (!shelves.has(shelf) || shelves.refusalOfPlace(shelf, i) != 0) {
            return Long.MIN_VALUE;
        }
        return shelves.at(shelf, i);
    }

    public int shift(int shelf, int i, int other, int j, int n) {
        if (!shelves.has(shelf) || !shelves.has(other)) {
            return BAD;
        }
        if (shelves.isBare(shelf) || shelves.isBare(other)) {
            return NOTHING_THERE;
        }
        if (!shelves.areAlikeRows(shelf, other)) {
            return OTHER_KIND;
        }
        if (!shelves.hasPlaces(shelf, i, n) || !shelves.hasPlaces(other, j, n)) {
            return NO_SUCH_PLACE;
        }
        shelves.copy(shelf, i, other, j, n);
        return n;
    }

    public int taken(int shelf, int k) {
        if (!shelves.has(shelf) || !Needles.isKind(k)) {
            return BAD;
        }
        if (shelves.isBare(shelf)) {
            return NOTHING_THERE;
        }
        if (!shelves.holdsNeedle(shelf)) {
            return OTHER_KIND;
        }
        int kind = needles.kindOf(shelves.needleOn(shelf));
        return Needles.isUnder(kind, k) ? kind : OTHER_KIND;
    }

    public int count(int what) {
        switch (what) {
            case 0:
                return bazaar.size;
            case 1:
                return reader.length();
            case 2:
                return changes.undoable();
            case 3:
                return needles.bodies();
            case 4:
                return needles.ran();
            case 5:
                return bazaar.feelingsBelowNone();
            default:
                return BAD;
        }
    }

    /** All numbers of people and of the bazaar stand in one row, so that changes, thoughts and images treat them alike. */
    private static final class Bazaar {
        static final int HUNGER = 0, WANTS = 8, SOFTENS = 16, FADES = 17, GROWS = 18, DAY = 19, FEELINGS = 20;
        static final int NUMBERS = FEELINGS + MOST_PEOPLE * MOST_PEOPLE;
        /** By what mend() names: the first two are a person's, the others the bazaar's. */
        private static final int[] MOST_OF = {MOST_HUNGER, MOST_WANTS, 3, 9, 20, 99};
        private static final int MOST_DAY = 99;

        int size = 0;
        private final int[] numbers = new int[NUMBERS];

        Bazaar() {
            numbers[SOFTENS] = 1;
            numbers[GROWS] = 6;
        }

        static boolean mayCome(int hunger, int wants) {
            return hunger >= 0 && hunger <= MOST_HUNGER && wants >= 0 && wants <= MOST_WANTS;
        }

        static boolean isFeeling(int v) {
            return v >= -MOST_FEELING && v <= MOST_FEELING;
        }

        static int mostOf(int what) {
            return what >= 0 && what < MOST_OF.length ? MOST_OF[what] : -1;
        }

        static int placeOfFeeling(int one, int other) {
            return FEELINGS + one * MOST_PEOPLE + other;
        }

        int admit(int hunger, int wants) {
            if (size >= MOST_PEOPLE) {
                return FULL;
            }
            numbers[HUNGER + size] = hunger;
            numbers[WANTS + size] = wants;
            size++;
            return size - 1;
        }

        boolean has(int one) {
            return one >= 0 && one < size;
        }

        boolean hasPair(int ab) {
            return ab >= 0 && has(ab / 10) && has(ab % 10) && ab / 10 != ab % 10;
        }

        int placeOf(int number, int what) {
            if (what == 0 || what == 1) {
                return has(number) ? (what == 0 ? HUNGER : WANTS) + number : -1;
            }
            return what >= 2 && what <= 5 && number == 0 ? SOFTENS + what - 2 : -1;
        }

        int numberAt(int place) {
            return place >= 0 && place < NUMBERS ? numbers[place] : 0;
        }

        void setNumber(int place, int v) {
            if (place >= 0 && place < NUMBERS) {
                numbers[place] = v;
            }
        }

        int hungerOf(int one) {
            return one >= 0 && one < MOST_PEOPLE ? numbers[HUNGER + one] : 0;
        }

        void hungerMore(int one, int v) {
            setNumber(HUNGER + one, Math.min(hungerOf(one) + v, MOST_HUNGER));
        }

        void hungerLess(int one, int v) {
            setNumber(HUNGER + one, Math.max(hungerOf(one) - v, 0));
        }

        int felt(int one, int other) {
            int place = FEELINGS + one * MOST_PEOPLE + other;
            return place >= FEELINGS && place < NUMBERS ? numbers[place] : 0;
        }

        void setFelt(int one, int other, int v) {
            setNumber(placeOfFeeling(one, other), v);
        }

        /** Who loves the buyer most, the weigher aside. */
        int friendOf(int buyer, int weigher) {
            int friend = NOBODY;
            int most = 0;
            for (int who = 0; who < size; who++) {
                int felt = felt(who, buyer);
                if (who != weigher && felt > most) {
                    friend = who;
                    most = felt;
                }
            }
            return friend;
        }

        int loversOf(int one) {
            int lovers = 0;
            for (int who = 0; who < size; who++) {
                lovers += felt(who, one) > 0 ? 1 : 0;
            }
            return lovers;
        }

        int hatersOf(int one) {
            int haters = 0;
            for (int who = 0; who < size; who++) {
                haters += felt(who, one) < 0 ? 1 : 0;
            }
            return haters;
        }

        int loveless() {
            int bits = 0;
            for (int one = 0; one < size; one++) {
                bits |= loversOf(one) == 0 ? 1 << one : 0;
            }
            return bits;
        }

        int feelingsBelowNone() {
            int below = 0;
            for (int one = 0; one < size; one++) {
                below += hatersOf(one);
            }
            return below;
        }

        int smallestRing() {
            int smallest = NOT;
            for (int one = 0; one < size; one++) {
                int length = ringThrough(one);
                if (length != NOT && (smallest == NOT || length < smallest)) {
                    smallest = length;
                }
            }
            return smallest;
        }

        private int ringThrough(int one) {
            int reached = 1 << one;
            for (int steps = 1; steps <= size; steps++) {
                reached = hatedBy(reached);
                if ((reached >> one & 1) == 1) {
                    return steps;
                }
            }
            return NOT;
        }

        private int hatedBy(int haters) {
            int hated = 0;
            for (int who = 0; who < size; who++) {
                for (int whom = 0; whom < size; whom++) {
                    if ((haters >> who & 1) == 1 && felt(who, whom) < 0) {
                        hated |= 1 << whom;
                    }
                }
            }
            return hated;
        }

        /** What a day does once all have had their turn. */
        void endDay(int fedBits) {
            for (int one = 0; one < size; one++) {
                if ((fedBits >> one & 1) == 0) {
                    hungerMore(one, numbers[GROWS]);
                }
            }
            numbers[DAY] = Math.min(numbers[DAY] + 1, MOST_DAY);
            if (numbers[FADES] != 0 && numbers[DAY] % numbers[FADES] == 0) {
                fade();
            }
        }

        private void fade() {
            for (int place = FEELINGS; place < NUMBERS; place++) {
                int felt = numbers[place];
                numbers[place] = felt > 0 ? felt - 1 : felt < 0 ? felt + 1 : 0;
            }
        }

        void takeOver(Bazaar other) {
            size = other.size;
            System.arraycopy(other.numbers, 0, numbers, 0, NUMBERS);
        }

        /** People that came since the image keep their hungers, and feelings of theirs and for them. */
        void layBack(Bazaar image) {
            for (int one = 0; one < image.size; one++) {
                numbers[HUNGER + one] = image.numbers[HUNGER + one];
                for (int other = 0; other < image.size; other++) {
                    int place = placeOfFeeling(one, other);
                    numbers[place] = image.numbers[place];
                }
            }
            numbers[DAY] = image.numbers[DAY];
        }
    }

    /**
     * The tape, and the reader of a law's text. It writes the law as a row of signs in the order in which they are
     * worked out, operands ahead of what joins them, so that a law is read once and worked out often.
     */
    private static final class LawReader {
        static final int NO_FAULT = -1;
        static final int MOST_BYTES = 160;
        /** No byte gives more than one sign, and the end of the last line one more. */
        static final int MOST_SIGNS = MOST_BYTES + 1;
        static final int ASK = -'?', END = -';', NEGATE = -'~', DENY = -'!';
        static final int WORDS = 6;
        private static final int MOST_DIGITS = 4;
        private static final int MOST_OPEN = 6;
        private static final int COMPARE = 2, OPERAND = 5;
        private static final int TEXT_END = -1;

        final int[] signs = new int[MOST_SIGNS];
        int size = 0;
        private final int[] bytes = new int[MOST_BYTES];
        private int length = 0;
        private int at = 0;

        int take(int letter) {
            if (length >= MOST_BYTES) {
                return FULL;
            }
            bytes[length] = letter;
            length++;
            return length;
        }

        int length() {
            return length;
        }

        void clear() {
            length = 0;
        }

        /** The reading place stays where no text goes on, so that it is the fault. */
        int read() {
            at = 0;
            size = 0;
            for (int lines = 0; lines <= MOST_BYTES; lines++) {
                if (!readLine()) {
                    return at;
                }
                if (next() != ';') {
                    return next() == TEXT_END ? NO_FAULT : at;
                }
                at++;
            }
            return at;
        }

        private boolean readLine() {
            if (!readLevel(0, 0)) {
                return false;
            }
            if (next() == '?') {
                at++;
                write(ASK);
                if (!readLevel(0, 0)) {
                    return false;
                }
            }
            write(END);
            return true;
        }

        private boolean readLevel(int level, int open) {
            if (level >= OPERAND) {
                return readOperand(open);
            }
            if (!readLevel(level + 1, open)) {
                return false;
            }
            int most = level == COMPARE ? 1 : MOST_BYTES;
            for (int joined = 0; joined < most && levelOf(next()) == level; joined++) {
                int sign = next();
                at++;
                if (!readLevel(level + 1, open)) {
                    return false;
                }
                write(-sign);
            }
            return true;
        }

        private static int levelOf(int letter) {
            switch (letter) {
                case '|':
                    return 0;
                case '&':
                    return 1;
                case '<':
                case '=':
                case '>':
                    return COMPARE;
                case '+':
                case '-':
                    return 3;
                case '*':
                case '/':
                case '%':
                    return 4;
                default:
                    return OPERAND;
            }
        }

        private boolean readOperand(int open) {
            int letter = next();
            if (letter == '(' || letter == '!' || letter == '-') {
                return open < MOST_OPEN && readOpened(letter, open + 1);
            }
            if (isDigit(letter)) {
                readNumber();
                return true;
            }
            return readWord();
        }

        private boolean readOpened(int letter, int open) {
            at++;
            if (letter == '(') {
                if (!readLevel(0, open) || next() != ')') {
                    return false;
                }
                at++;
                return true;
            }
            if (!readOperand(open)) {
                return false;
            }
            write(letter == '!' ? DENY : NEGATE);
            return true;
        }

        private void readNumber() {
            int value = 0;
            for (int digits = 0; digits < MOST_DIGITS && isDigit(next()); digits++) {
                value = value * 10 + next() - '0';
                at++;
            }
            write(value);
        }

        private boolean readWord() {
            int end = at;
            while (end < length && end < MOST_BYTES && bytes[end] >= 'a' && bytes[end] <= 'z') {
                end++;
            }
            for (int word = 0; word < WORDS; word++) {
                if (isWord(wordOf(word), end)) {
                    at = end;
                    write(-1 - word);
                    return true;
                }
            }
            return false;
        }

        private boolean isWord(String word, int end) {
            if (end - at != word.length()) {
                return false;
            }
            for (int i = 0; i < word.length(); i++) {
                int place = at + i;
                if (place < 0 || place >= MOST_BYTES || bytes[place] != word.charAt(i)) {
                    return false;
                }
            }
            return true;
        }

        private static String wordOf(int word) {
            switch (word) {
                case 0:
                    return "hate";
                case 1:
                    return "love";
                case 2:
                    return "hunger";
                case 3:
                    return "want";
                case 4:
                    return "day";
                default:
                    return "done";
            }
        }

        private static boolean isDigit(int letter) {
            return letter >= '0' && letter <= '9';
        }

        private int next() {
            return at >= 0 && at < length && at < MOST_BYTES ? bytes[at] : TEXT_END;
        }

        private void write(int sign) {
            if (size < MOST_SIGNS) {
                signs[size] = sign;
                size++;
            }
        }
    }

    /** The law in force. */
    private static final class Law {
        private static final int MOST_WEIGHED = 50;
        /** Each of the seven depths of a text keeps at most one operand a level, and one is at hand. */
        private static final int MOST_KEPT = 40;

        private final int[] signs = new int[LawReader.MOST_SIGNS];
        private int size = 0;
        private final int[] words = new int[LawReader.WORDS];
        private final int[] kept = new int[MOST_KEPT];

        void become(LawReader reader) {
            size = Math.min(reader.size, signs.length);
            System.arraycopy(reader.signs, 0, signs, 0, size);
        }

        /** What the words mean for a buyer, whoever weighs. */
        void setWords(int love, int hunger, int want, int day, int done) {
            words[1] = love;
            words[2] = hunger;
            words[3] = want;
            words[4] = day;
            words[5] = done;
        }

        int weighedOut(int hate) {
            if (size == 0) {
                return held(8 + words[3] - hate);
            }
            words[0] = hate;
            int top = -1;
            boolean counts = true;
            for (int i = 0; i < size; i++) {
                int sign = signs[i];
                if (sign >= -LawReader.WORDS) {
                    if (top >= MOST_KEPT - 1) {
                        return 0;
                    }
                    top++;
                    kept[top] = sign >= 0 ? sign : words[-1 - sign];
                } else if (top < 0) {
                    return 0;
                } else if (sign == LawReader.END) {
                    if (counts) {
                        return held(kept[top]);
                    }
                    top--;
                    counts = true;
                } else if (sign == LawReader.ASK) {
                    counts = kept[top] != 0;
                    top--;
                } else if (sign == LawReader.NEGATE) {
                    kept[top] = -kept[top];
                } else if (sign == LawReader.DENY) {
                    kept[top] = kept[top] == 0 ? 1 : 0;
                } else if (top >= 1) {
                    top--;
                    kept[top] = joined(-sign, kept[top], kept[top + 1]);
                }
            }
            return 0;
        }

        private static int held(int out) {
            return out < 0 ? 0 : out > MOST_WEIGHED ? MOST_WEIGHED : out;
        }

        private static int joined(int letter, int left, int right) {
            switch (letter) {
                case '|':
                    return left != 0 || right != 0 ? 1 : 0;
                case '&':
                    return left != 0 && right != 0 ? 1 : 0;
                case '<':
                    return left < right ? 1 : 0;
                case '=':
                    return left == right ? 1 : 0;
                case '>':
                    return left > right ? 1 : 0;
                case '+':
                    return left + right;
                case '-':
                    return left - right;
                case '*':
                    return left * right;
                case '/':
                    return right == 0 ? 0 : left / right;
                case '%':
                    return right == 0 ? 0 : left % right;
                default:
                    return 0;
            }
        }
    }

    /** How one day goes by in a bazaar, and what it was: who bought, by whom, who stood by, how much. */
    private static final class Round {
        int fed = 0;
        final int[] buyers = new int[MOST_PEOPLE];
        final int[] weighers = new int[MOST_PEOPLE];
        final int[] friends = new int[MOST_PEOPLE];
        final int[] weighed = new int[MOST_PEOPLE];
        private int fedBits = 0;
        private int weigherBits = 0;

        int goBy(Bazaar bazaar, Law law) {
            fed = 0;
            fedBits = 0;
            weigherBits = 0;
            int hadTurn = 0;
            for (int turn = 0; turn < bazaar.size; turn++) {
                int buyer = hungriest(bazaar, hadTurn);
                hadTurn |= 1 << buyer;
                serve(bazaar, law, buyer);
            }
            bazaar.endDay(fedBits);
            return fed;
        }

        private static int hungriest(Bazaar bazaar, int hadTurn) {
            int buyer = NOBODY;
            int most = -1;
            for (int who = 0; who < bazaar.size; who++) {
                int hunger = bazaar.hungerOf(who);
                if ((hadTurn >> who & 1) == 0 && hunger > most) {
                    buyer = who;
                    most = hunger;
                }
            }
            return buyer;
        }

        private void serve(Bazaar bazaar, Law law, int buyer) {
            // A weigher hates the buyer and a friend loves him: whoever weighs, the friend by is the same.
            int friend = bazaar.friendOf(buyer, NOBODY);
            if (friend == NOBODY || fed >= MOST_PEOPLE) {
                return;
            }
            law.setWords(bazaar.felt(friend, buyer), bazaar.hungerOf(buyer), bazaar.numberAt(Bazaar.WANTS + buyer),
                bazaar.numberAt(Bazaar.DAY), fed);
            int weigher = NOBODY;
            int most = -1;
            for (int who = 0; who < bazaar.size; who++) {
                int hate = -bazaar.felt(who, buyer);
                if (hate > 0 && (weigherBits >> who & 1) == 0) {
                    int out = law.weighedOut(hate);
                    if (out > most) {
                        weigher = who;
                        most = out;
                    }
                }
            }
            if (weigher == NOBODY) {
                return;
            }
            int softened = bazaar.felt(weigher, buyer) + bazaar.numberAt(Bazaar.SOFTENS);
            bazaar.setFelt(weigher, buyer, Math.min(softened, MOST_FEELING));
            bazaar.hungerLess(buyer, most);
            buyers[fed] = buyer;
            weighers[fed] = weigher;
            friends[fed] = friend;
            weighed[fed] = most;
            fed++;
            fedBits |= 1 << buyer;
            weigherBits |= 1 << weigher;
        }

        int weigherOf(int one) {
            for (int i = 0; i < fed && i < MOST_PEOPLE; i++) {
                if (buyers[i] == one) {
                    return weighers[i];
                }
            }
            return NOBODY;
        }
    }

    /** Days that go by in a world beside the bazaar, which stays as it is, and that days seen are held against. */
    private static final class Thought {
        private static final int NOT_SEEN = 9;
        private static final int FEELING_STEPS = 2 * MOST_FEELING + 1;
        private static final int WRATH_OF = 12;
        private static final int DRAWN_FEELING = -5;

        final Bazaar world = new Bazaar();
        int whoseWorth = NOBODY;
        int hungerByWorth = 0;
        int hungerByTurns = 0;
        int wrongsFirst = 0;
        int fitting = 0;
        int leastFitting = 0;
        private final Bazaar now;
        private final Law law;
        private final Shelves shelves;
        private final Round round = new Round();
        private final int[] hungerByFeeling = new int[FEELING_STEPS];

        Thought(Bazaar now, Law law, Shelves shelves) {
            this.now = now;
            this.law = law;
            this.shelves = shelves;
        }

        void begin() {
            world.takeOver(now);
        }

        int goOn(int days) {
            int fed = 0;
            for (int day = 0; day < days; day++) {
                fed += round.goBy(world, law);
            }
            return fed;
        }

        int daysFed(int one) {
            for (int day = 0; day < MOST_DAYS; day++) {
                round.goBy(world, law);
                if (round.weigherOf(one) == NOBODY) {
                    return day;
                }
            }
            return MOST_DAYS;
        }

        void seekWorth(int one, int n) {
            whoseWorth = NOBODY;
            hungerByWorth = MOST_HUNGER + 1;
            for (int who = 0; who < now.size; who++) {
                if (who == one) {
                    continue;
                }
                begin();
                world.setFelt(who, one, -MOST_FEELING);
                goOn(n);
                if (world.hungerOf(one) < hungerByWorth) {
                    whoseWorth = who;
                    hungerByWorth = world.hungerOf(one);
                }
            }
        }

        /** Of the days from where the thought stands, the first that is not as it was seen. */
        int firstUnlike(int shelf, int one) {
            int days = Math.min(shelves.sizeOf(shelf), MOST_DAYS);
            for (int day = 0; day < days; day++) {
                long by = shelves.at(shelf, day);
                round.goBy(world, law);
                if (by != NOT_SEEN && by != round.weigherOf(one)) {
                    return day;
                }
            }
            return NOT;
        }

        /** What one's days would be by each number that may stand at a place of the bazaar. */
        void tryNumbers(int shelf, int one, int place, int from, int to) {
            fitting = 0;
            leastFitting = to;
            for (int v = to; v >= from; v--) {
                begin();
                world.setNumber(place, v);
                if (firstUnlike(shelf, one) == NOT) {
                    fitting++;
                    leastFitting = v;
                }
            }
        }

        /** Turns move nothing but one feeling, so they are played back from the hunger that each feeling ends in. */
        void playTurns(int one, int other, int n) {
            for (int i = 0; i < FEELING_STEPS; i++) {
                begin();
                world.setFelt(other, one, i - MOST_FEELING);
                goOn(1);
                hungerByFeeling[i] = world.hungerOf(one);
            }
            for (int turn = n - 1; turn > 0; turn--) {
                if (turn % 2 == 0) {
                    playWrong();
                } else {
                    playForgive();
                }
            }
            int felt = now.felt(other, one);
            int still = hungerAt(felt);
            int wronged = hungerAt(felt - 2);
            wrongsFirst = wronged < still ? 1 : 0;
            hungerByTurns = Math.min(wronged, still);
        }

        /** From the highest feeling down, so that a wrong leads to what the turn behind it made of the lower one. */
        private void playWrong() {
            for (int i = FEELING_STEPS - 1; i >= 0; i--) {
                hungerByFeeling[i] = Math.min(hungerByFeeling[i], hungerAt(i - MOST_FEELING - 2));
            }
        }

        private void playForgive() {
            for (int i = 0; i < FEELING_STEPS; i++) {
                hungerByFeeling[i] = Math.max(hungerByFeeling[i], hungerAt(i - MOST_FEELING + 2));
            }
        }

        private int hungerAt(int felt) {
            int held = Math.max(-MOST_FEELING, Math.min(felt, MOST_FEELING));
            return hungerByFeeling[held + MOST_FEELING];
        }

        int drawBazaars(int seed, int n, int days, int wrath, int one) {
            int z = seed;
            int hunger = 0;
            int fed = 0;
            for (int i = 0; i < n; i++) {
                begin();
                for (int day = 0; day < days; day++) {
                    z = z * 1103515245 + 12345;
                    if ((z >>> 16) % WRATH_OF < wrath) {
                        drawHate(z);
                    }
                    fed += goOn(1);
                }
                hunger += world.hungerOf(one);
            }
            return one == -1 ? fed : hunger;
        }

        private void drawHate(int z) {
            int people = world.size;
            if (people >= 2) {
                int who = (z >>> 8) % people;
                int whom = (who + 1 + (z >>> 4) % (people - 1)) % people;
                world.setFelt(who, whom, DRAWN_FEELING);
            }
        }
    }

    /**
     * Gives people weighers of their own at the least price, of like ways the first by weighers. As many as can be
     * is the same question, with a price of 1 for whoever has nobody.
     */
    private static final class Pairing {
        private static final int NO_WAY = 1000000;
        private static final int CHOICES = MOST_PEOPLE + 1;
        private static final int MASKS = 1 << MOST_PEOPLE;

        private final Bazaar bazaar;
        /** By buyer and weigher, nobody included. */
        private final int[] prices = new int[MOST_PEOPLE * CHOICES];
        /** By buyer and the set of weighers that are taken: the least price from this buyer on. */
        private final int[] least = new int[(MOST_PEOPLE + 1) * MASKS];
        private final int[] weighers = new int[MOST_PEOPLE];

        Pairing(Bazaar bazaar) {
            this.bazaar = bazaar;
        }

        void asManyAsCanBe() {
            for (int buyer = 0; buyer < bazaar.size; buyer++) {
                for (int who = 0; who < bazaar.size; who++) {
                    setPrice(buyer, who, bazaar.felt(who, buyer) < 0 && mayWeigh(who, buyer) ? 0 : NO_WAY);
                }
                setPrice(buyer, NOBODY, 1);
            }
            settle();
        }

        void atLeastHarm() {
            for (int buyer = 0; buyer < bazaar.size; buyer++) {
                for (int who = 0; who < bazaar.size; who++) {
                    int felt = bazaar.felt(who, buyer);
                    int price = felt < 0 ? 0 : 1 + felt;
                    setPrice(buyer, who, mayWeigh(who, buyer) ? price : NO_WAY);
                }
                setPrice(buyer, NOBODY, NO_WAY);
            }
            settle();
        }

        boolean isThereAWay() {
            return price() < NO_WAY;
        }

        int price() {
            return least[0];
        }

        int weigherOf(int one) {
            return one >= 0 && one < MOST_PEOPLE ? weighers[one] : NOBODY;
        }

        private boolean mayWeigh(int who, int buyer) {
            return who != buyer && bazaar.friendOf(buyer, who) != NOBODY;
        }

        private void setPrice(int buyer, int who, int price) {
            int place = buyer * CHOICES + who;
            if (place >= 0 && place < prices.length) {
                prices[place] = price;
            }
        }

        private void settle() {
            int people = bazaar.size;
            int masks = 1 << people;
            for (int mask = 0; mask < masks; mask++) {
                setLeast(people, mask, 0);
            }
            for (int buyer = people - 1; buyer >= 0; buyer--) {
                for (int mask = 0; mask < masks; mask++) {
                    setLeast(buyer, mask, priceBy(buyer, mask, cheapest(buyer, mask)));
                }
            }
            int taken = 0;
            for (int buyer = 0; buyer < people && buyer < MOST_PEOPLE; buyer++) {
                int who = cheapest(buyer, taken);
                weighers[buyer] = who;
                taken |= who == NOBODY ? 0 : 1 << who;
            }
        }

        /** Nobody is asked last, and only a lesser price counts: so of like ways the first is kept. */
        private int cheapest(int buyer, int mask) {
            int best = NOBODY;
            int price = NO_WAY + 1;
            for (int who = 0; who < bazaar.size; who++) {
                int by = priceBy(buyer, mask, who);
                if (by < price) {
                    best = who;
                    price = by;
                }
            }
            return priceBy(buyer, mask, NOBODY) < price ? NOBODY : best;
        }

        private int priceBy(int buyer, int mask, int who) {
            int place = buyer * CHOICES + who;
            boolean isTaken = who != NOBODY && (mask >> who & 1) == 1;
            if (isTaken || place < 0 || place >= prices.length) {
                return NO_WAY;
            }
            int then = (buyer + 1) * MASKS + (who == NOBODY ? mask : mask | 1 << who);
            int behind = then >= 0 && then < least.length ? least[then] : NO_WAY;
            return Math.min(prices[place] + behind, NO_WAY);
        }

        private void setLeast(int buyer, int mask, int price) {
            int place = buyer * MASKS + mask;
            if (place >= 0 && place < least.length) {
                least[place] = price;
            }
        }
    }

    /** What is told of deeds: counts, the tale of the latest day, the image. */
    private static final class Book {
        static final int DAYS = 0, FED = 1, NOT_FED = 2, WRONGS = 3, LEASES = 4, GIFTS = 5, COUNTS = 6;
        private static final int MOST_TALE = MOST_PEOPLE * 9;

        private final int[] counts = new int[COUNTS];
        private final int[] tale = new int[MOST_TALE];
        private int taleLength = 0;
        private final Bazaar imageOfBazaar = new Bazaar();
        private final int[] imageOfCounts = new int[COUNTS];
        private boolean hasImage = false;

        void add(int what, int more) {
            if (what >= 0 && what < COUNTS) {
                counts[what] += more;
            }
        }

        int told(int what) {
            return what >= 0 && what < COUNTS ? counts[what] : 0;
        }

        void tell(Round round, int people) {
            add(DAYS, 1);
            add(FED, round.fed);
            add(NOT_FED, people - round.fed);
            taleLength = 0;
            for (int i = 0; i < round.fed && i < MOST_PEOPLE; i++) {
                write('0' + round.buyers[i]);
                write('<');
                write('0' + round.weighers[i]);
                write('|');
                write('0' + round.friends[i]);
                write(':');
                if (round.weighed[i] >= 10) {
                    write('0' + round.weighed[i] / 10);
                }
                write('0' + round.weighed[i] % 10);
                write(';');
            }
        }

        private void write(int letter) {
            if (taleLength < MOST_TALE) {
                tale[taleLength] = letter;
                taleLength++;
            }
        }

        int taleLength() {
            return taleLength;
        }

        int taleByte(int i) {
            return i >= 0 && i < taleLength ? tale[i] : NOT;
        }

        void keepImage(Bazaar bazaar) {
            imageOfBazaar.takeOver(bazaar);
            System.arraycopy(counts, 0, imageOfCounts, 0, COUNTS);
            hasImage = true;
        }

        boolean hasImage() {
            return hasImage;
        }

        void layBack(Bazaar bazaar) {
            bazaar.layBack(imageOfBazaar);
            System.arraycopy(imageOfCounts, 0, counts, 0, COUNTS);
        }
    }

    /** Changes that may be undone, and behind them those that may be done again. */
    private static final class Changes {
        private static final int MOST = 40;

        private final int[] places = new int[MOST];
        private final int[] before = new int[MOST];
        private final int[] after = new int[MOST];
        private int done = 0;
        private int all = 0;

        void add(int place, int was, int becomes) {
            if (done >= MOST) {
                forgetFirst();
            }
            places[done] = place;
            before[done] = was;
            after[done] = becomes;
            done++;
            all = done;
        }

        private void forgetFirst() {
            System.arraycopy(places, 1, places, 0, MOST - 1);
            System.arraycopy(before, 1, before, 0, MOST - 1);
            System.arraycopy(after, 1, after, 0, MOST - 1);
            done = MOST - 1;
        }

        int undoable() {
            return done;
        }

        int redoable() {
            return all - done;
        }

        void stepBack(Bazaar bazaar) {
            if (done > 0) {
                done--;
                bazaar.setNumber(places[done], before[done]);
            }
        }

        void stepOn(Bazaar bazaar) {
            if (done < all && done < MOST) {
                bazaar.setNumber(places[done], after[done]);
                done++;
            }
        }
    }

    /** Needles by number, each of a kind; an act runs bodies of acts, its own kind's or the next kind's above. */
    private static final class Needles {
        private static final int MOST = 50, KINDS = 8, ACTS = 4, MOST_TRACED = 24, MOST_DEPTH = 40;
        private static final int WEIGHS = 0, HATES = 1, STANDS = 2, TELLS = 3;
        private static final int NEEDLE = 0, SCORN = 1, STRANGE = 2, LEASED = 3, NIGHT = 4, JUST = 5, COFFEE = 6, PINCH = 7;
        private static final int NO_KIND = -1, NO_BODY = 0;
        /** The kind above each kind. */
        private static final int[] ABOVE = {NO_KIND, NEEDLE, NEEDLE, STRANGE, SCORN, LEASED, NEEDLE, NIGHT};
        /** Bodies of acts, by kind and act. NEEDLE has the interface's body 1 as if it were its own. */
        private static final int[] BODIES = {
            1, 10, 11, 2,
            20, NO_BODY, NO_BODY, NO_BODY,
            NO_BODY, 30, NO_BODY, NO_BODY,
            NO_BODY, 41, 40, NO_BODY,
            NO_BODY, NO_BODY, 50, NO_BODY,
            NO_BODY, NO_BODY, NO_BODY, 60,
            70, NO_BODY, NO_BODY, NO_BODY,
            NO_BODY, 80, NO_BODY, 81,
        };

        private final int[] kinds = new int[MOST];
        private int bodies = 0;
        private final int[] traced = new int[MOST_TRACED];
        private int ran = 0;

        static boolean isKind(int kind) {
            return kind >= 0 && kind < KINDS;
        }

        static boolean isAct(int act) {
            return act >= 0 && act < ACTS;
        }

        static boolean isUnder(int kind, int k) {
            int at = kind;
            for (int steps = 0; steps < KINDS && isKind(at); steps++) {
                if (at == k) {
                    return true;
                }
                at = ABOVE[at];
            }
            return false;
        }

        int add(int kind) {
            if (bodies >= MOST) {
                return FULL;
            }
            kinds[bodies] = kind;
            bodies++;
            return bodies - 1;
        }

        boolean has(int body) {
            return body >= 0 && body < bodies;
        }

        int bodies() {
            return bodies;
        }

        int kindOf(int body) {
            return has(body) ? kinds[body] : NO_KIND;
        }

        void forgetTrace() {
            ran = 0;
        }

        int ran() {
            return ran;
        }

        int traced(int i) {
            return i >= 0 && i < ran && i < MOST_TRACED ? traced[i] : BAD;
        }

        int perform(int n, int act, int x) {
            return has(n) && isAct(act) ? run(kindOf(n), n, act, x, 0) : 0;
        }

        /** Runs the body of an act that a kind has, or the next kind above it that has one. */
        private int run(int fromKind, int n, int act, int x, int depth) {
            int kind = fromKind;
            for (int steps = 0; steps < KINDS && isKind(kind); steps++) {
                int body = BODIES[kind * ACTS + act];
                if (body != NO_BODY) {
                    return depth < MOST_DEPTH ? runBody(body, n, x, depth + 1) : 0;
                }
                kind = ABOVE[kind];
            }
            return 0;
        }

        private int runBody(int body, int n, int x, int depth) {
            note(body);
            int own = kindOf(n);
            switch (body) {
                case 1:
                    return x + n;
                case 2:
                    return run(own, n, HATES, x, depth) - run(own, n, STANDS, 1, depth);
                case 10:
                    return run(own, n, WEIGHS, x, depth) * 2;
                case 11:
                    return x ^ n;
                case 20:
                    return run(ABOVE[SCORN], n, WEIGHS, x, depth) + 3;
                case 30:
                    return -run(ABOVE[STRANGE], n, HATES, x, depth);
                case 40:
                    return run(ABOVE[LEASED], n, STANDS, x, depth) * 3;
                case 41:
                    return run(ABOVE[LEASED], n, HATES, x + 1, depth);
                case 50:
                    return run(ABOVE[NIGHT], n, STANDS, x, depth) - run(own, n, WEIGHS, 2, depth);
                case 60:
                    return run(ABOVE[JUST], n, TELLS, x, depth) ^ 5;
                case 70:
                    return run(ABOVE[COFFEE], n, WEIGHS, x, depth) * 2;
                case 80:
                    return run(ABOVE[PINCH], n, HATES, x, depth) + run(own, n, STANDS, 2, depth);
                case 81:
                    return run(ABOVE[PINCH], n, TELLS, x, depth) - 1;
                default:
                    return 0;
            }
        }

        private void note(int body) {
            if (ran < MOST_TRACED) {
                traced[ran] = body;
            }
            ran++;
        }
    }

    /** Shelves that hold nothing, a needle, or a row of elements of one sort. */
    private static final class Shelves {
        static final int MOST_ELEMENTS = 60;
        private static final int MOST = 6;
        private static final int BYTES = 0, SHORTS = 1, INTS = 2, LONGS = 3, BOOLEANS = 4, NEEDLE = 5, NOTHING = 6;

        /** The sort of the row that a shelf holds, or that it holds none. */
        private final int[] holds = new int[]{NOTHING, NOTHING, NOTHING, NOTHING, NOTHING, NOTHING};
        private final int[] sizes = new int[MOST];
        private final int[] bodies = new int[MOST];
        private final long[] elements = new long[MOST * MOST_ELEMENTS];

        static boolean isSort(int sort) {
            return sort >= BYTES && sort <= BOOLEANS;
        }

        boolean has(int shelf) {
            return shelf >= 0 && shelf < MOST;
        }

        private int held(int shelf) {
            return has(shelf) ? holds[shelf] : NOTHING;
        }

        boolean isBare(int shelf) {
            return held(shelf) == NOTHING;
        }

        boolean holdsNeedle(int shelf) {
            return held(shelf) == NEEDLE;
        }

        boolean holdsBytes(int shelf) {
            return held(shelf) == BYTES;
        }

        boolean areAlikeRows(int shelf, int other) {
            return isSort(held(shelf)) && held(shelf) == held(other);
        }

        int needleOn(int shelf) {
            return holdsNeedle(shelf) ? bodies[shelf] : -1;
        }

        int sizeOf(int shelf) {
            return has(shelf) ? sizes[shelf] : 0;
        }

        int refusalOfBytes(int shelf) {
            if (isBare(shelf)) {
                return NOTHING_THERE;
            }
            return holdsBytes(shelf) ? 0 : OTHER_KIND;
        }

        int refusalOfPlace(int shelf, int i) {
            if (isBare(shelf)) {
                return NOTHING_THERE;
            }
            if (!isSort(held(shelf))) {
                return OTHER_KIND;
            }
            return hasPlaces(shelf, i, 1) ? 0 : NO_SUCH_PLACE;
        }

        boolean hasPlaces(int shelf, int i, int n) {
            return i >= 0 && n >= 0 && i <= sizeOf(shelf) - n;
        }

        void holdNothing(int shelf) {
            hold(shelf, NOTHING);
        }

        void holdNeedle(int shelf, int body) {
            if (has(shelf)) {
                hold(shelf, NEEDLE);
                bodies[shelf] = body;
            }
        }

        void holdRow(int shelf, int sort, int n) {
            if (has(shelf) && n >= 0 && n <= MOST_ELEMENTS) {
                hold(shelf, sort);
                sizes[shelf] = n;
                for (int i = 0; i < n; i++) {
                    elements[shelf * MOST_ELEMENTS + i] = 0;
                }
            }
        }

        private void hold(int shelf, int what) {
            if (has(shelf)) {
                holds[shelf] = what;
                sizes[shelf] = 0;
            }
        }

        long at(int shelf, int i) {
            return hasPlaces(shelf, i, 1) ? elements[shelf * MOST_ELEMENTS + i] : 0;
        }

        void setAt(int shelf, int i, long v) {
            if (hasPlaces(shelf, i, 1)) {
                elements[shelf * MOST_ELEMENTS + i] = lowestBits(held(shelf), v);
            }
        }

        private static long lowestBits(int sort, long v) {
            switch (sort) {
                case BYTES:
                    return (byte) v;
                case SHORTS:
                    return (short) v;
                case INTS:
                    return (int) v;
                case BOOLEANS:
                    return v != 0 ? 1 : 0;
                default:
                    return v;
            }
        }

        void copy(int shelf, int i, int other, int j, int n) {
            if (hasPlaces(shelf, i, n) && hasPlaces(other, j, n)) {
                System.arraycopy(elements, shelf * MOST_ELEMENTS + i, elements, other * MOST_ELEMENTS + j, n);
            }
        }
    }
}
