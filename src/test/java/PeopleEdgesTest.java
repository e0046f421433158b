/** Promises 1 to 8, sentence by sentence: the last that is taken and the first that is not, on both sides. */
public final class PeopleEdgesTest {
    private static final int BAD = -1, FULL = -3;
    private static final int[] MOST = {99, 9, 3, 9, 20, 99};
    private static final Due due = new Due();

    public static void main(String[] args) {
        aNewBazaarIsEmpty();
        objectsAreApart();
        theLastOf512CallsAnswers();
        hungerIsFrom0To99();
        wantsAreFrom0To9();
        peopleAreAsTheyCome();
        eightCome();
        shelvesForPeople();
        oneToEightComeFromARow();
        thePlaceInARow();
        aTwoIsWhole();
        aTwoIsSo();
        aFullBazaarEndsTheRow();
        theRowStays();
        numbersBecome();
        numbersOfEachAreHisOwn();
        feelingsBecome();
        feelingsAreOfOneForAnother();
        bytesCome();
        theTapeHolds160();
        due.end(1, 8);
    }

    // ---- promise 1

    private static void aNewBazaarIsEmpty() {
        ScalesByHate x = new ScalesByHate();
        due.promise(1, "no PEOPLE");
        due.is("count(0)", x.count(0), 0);
        due.is("of(0, 0)", x.of(0, 0), BAD);
        due.is("feeling(1)", x.feeling(1), BAD);
        due.promise(1, "SOFTENS 1 at first");
        due.is("of(0, 2)", x.of(0, 2), 1);
        due.promise(1, "FADES 0 at first");
        due.is("of(0, 3)", x.of(0, 3), 0);
        due.promise(1, "GROWS 6 at first");
        due.is("of(0, 4)", x.of(0, 4), 6);
        due.promise(1, "DAY 0 at first");
        due.is("of(0, 5)", x.of(0, 5), 0);
        due.promise(1, "SHELVES hold nothing at first");
        for (int shelf = 0; shelf <= 5; shelf++) {
            due.is("taken(" + shelf + ", 0)", x.taken(shelf, 0), -11);
        }
        due.promise(1, "no TAPE, no CHANGES, no BODIES, nothing ran, no FEELINGS");
        for (int what = 1; what <= 5; what++) {
            due.is("count(" + what + ")", x.count(what), 0);
        }
        due.promise(1, "nothing is LED");
        for (int what = 0; what <= 5; what++) {
            due.is("led(" + what + ")", x.led(what), 0);
        }
        due.promise(1, "no TALE");
        due.is("tale(-1)", x.tale(-1), 0);
        due.promise(1, "no IMAGE");
        due.is("back()", x.back(), -5);
        due.promise(1, "no text of THE LAW: 8, and want, less hate");
        ScalesByHate y = Bazaars.ofOneBuyer();
        due.is("later(1, 0)", y.later(1, 0), 20 - (8 + 5 - 3));
    }

    private static void objectsAreApart() {
        due.promise(1, "each object is a bazaar of its own");
        ScalesByHate x = Bazaars.ofOneBuyer();
        ScalesByHate y = new ScalesByHate();
        Bazaars.law(x, "1");
        x.feed('1');
        x.body(3);
        x.row(0, 0, 1);
        x.mend(0, 2, 3);
        x.day();
        x.image();
        x.act(0, 0, 0);
        for (int what = 0; what <= 5; what++) {
            due.is("count(" + what + ") of another", y.count(what), 0);
            due.is("led(" + what + ") of another", y.led(what), 0);
        }
        due.is("softens of another", y.of(0, 2), 1);
        due.is("back() of another", y.back(), -5);
        due.is("its shelf", y.put(0, 0, 1), -11);
        due.is("the law of another", Bazaars.ofOneBuyer().later(1, 0), 10);
    }

    private static void theLastOf512CallsAnswers() {
        due.promise(1, "an object is used for 512 calls");
        ScalesByHate days = new ScalesByHate();
        for (int call = 1; call < 512; call++) {
            days.day();
        }
        due.is("call 512: led(0)", days.led(0), 511);
        ScalesByHate hungers = Bazaars.of(2);
        for (int call = 3; call < 512; call++) {
            hungers.gift(call % 2 == 0 ? 1 : 10, 1);
        }
        due.is("call 512: led(5)", hungers.led(5), 509);
        ScalesByHate laws = new ScalesByHate();
        for (int call = 1; call < 511; call++) {
            laws.feed('1');
            laws.law();
            call++;
        }
        due.is("call 511: feed('1')", laws.feed('1'), 1);
        due.is("call 512: law()", laws.law(), 1);
    }

    // ---- promise 2

    private static void hungerIsFrom0To99() {
        due.promise(2, "HUNGER is 0 .. 99");
        ScalesByHate x = new ScalesByHate();
        due.is("person(-1, 5)", x.person(-1, 5), BAD);
        due.is("person(0, 5)", x.person(0, 5), 0);
        due.is("of(0, 0)", x.of(0, 0), 0);
        due.is("person(1, 5)", x.person(1, 5), 1);
        due.is("person(98, 5)", x.person(98, 5), 2);
        due.is("person(99, 5)", x.person(99, 5), 3);
        due.is("of(3, 0)", x.of(3, 0), 99);
        due.is("person(100, 5)", x.person(100, 5), BAD);
    }

    private static void wantsAreFrom0To9() {
        due.promise(2, "WANTS are 0 .. 9");
        ScalesByHate x = new ScalesByHate();
        due.is("person(5, -1)", x.person(5, -1), BAD);
        due.is("person(5, 0)", x.person(5, 0), 0);
        due.is("of(0, 1)", x.of(0, 1), 0);
        due.is("person(5, 9)", x.person(5, 9), 1);
        due.is("of(1, 1)", x.of(1, 1), 9);
        due.is("person(5, 10)", x.person(5, 10), BAD);
    }

    private static void peopleAreAsTheyCome() {
        due.promise(2, "PEOPLE 0 .. 7, as they come: the number");
        ScalesByHate x = new ScalesByHate();
        for (int i = 0; i < 8; i++) {
            due.is("person " + i, x.person(10 + i, i), i);
            due.is("person not so", x.person(-1, 0), BAD);
        }
        for (int i = 0; i < 8; i++) {
            due.is("of(" + i + ", 0)", x.of(i, 0), 10 + i);
            due.is("of(" + i + ", 1)", x.of(i, 1), i);
        }
        due.promise(2, "FEELINGS are 0 at first");
        for (int a = 0; a < 8; a++) {
            for (int b = 0; b < 8; b++) {
                due.is("feeling(" + a + b + ")", x.feeling(10 * a + b), a == b ? BAD : 100);
            }
        }
    }

    private static void eightCome() {
        due.promise(2, "FULL: 8");
        ScalesByHate x = Bazaars.of(7);
        due.is("the eighth", x.person(1, 1), 7);
        due.is("the ninth", x.person(1, 1), FULL);
        due.is("count(0)", x.count(0), 8);
        due.is("of(8, 0)", x.of(8, 0), BAD);
    }

    // ---- promise 3

    private static void shelvesForPeople() {
        due.promise(3, "from a SHELF 0 .. 5");
        for (int shelf = 0; shelf <= 5; shelf++) {
            ScalesByHate x = new ScalesByHate();
            Bazaars.bytes(x, shelf, 7 + shelf, 3);
            due.is("people(" + shelf + ", 0, 1)", x.people(shelf, 0, 1), 1);
            due.is("of(0, 0)", x.of(0, 0), 7 + shelf);
        }
        ScalesByHate x = new ScalesByHate();
        due.is("people(-1, 0, 1)", x.people(-1, 0, 1), BAD);
        due.is("people(6, 0, 1)", x.people(6, 0, 1), BAD);
        due.promise(3, "a SHELF that holds nothing is missing: none came");
        due.is("people(0, 0, 1)", x.people(0, 0, 1), 0);
        due.is("people(0, 0, 8)", x.people(0, 0, 8), 0);
        due.promise(3, "-12: no ROW of bytes");
        for (int sort = 1; sort <= 4; sort++) {
            x.row(0, sort, 4);
            due.is("people from a row of sort " + sort, x.people(0, 0, 1), -12);
        }
        x.body(0);
        x.keep(0, 0);
        due.is("people from a needle", x.people(0, 0, 1), -12);
        x.row(0, 0, 4);
        due.is("people from bytes", x.people(0, 0, 1), 1);
    }

    private static void oneToEightComeFromARow() {
        due.promise(3, "n is 1 .. 8, and not more come");
        for (int n = 1; n <= 8; n++) {
            ScalesByHate x = rowOfEight();
            due.is("people(0, 0, " + n + ")", x.people(0, 0, n), n);
            due.is("count(0)", x.count(0), n);
            for (int i = 0; i < n; i++) {
                due.is("of(" + i + ", 0)", x.of(i, 0), 20 + i);
                due.is("of(" + i + ", 1)", x.of(i, 1), i);
            }
        }
        ScalesByHate x = rowOfEight();
        due.is("people(0, 0, 0)", x.people(0, 0, 0), BAD);
        due.is("people(0, 0, 9)", x.people(0, 0, 9), BAD);
        due.is("people(0, 0, -1)", x.people(0, 0, -1), BAD);
        due.is("count(0)", x.count(0), 0);
    }

    private static ScalesByHate rowOfEight() {
        ScalesByHate x = new ScalesByHate();
        Bazaars.bytes(x, 0, 20, 0, 21, 1, 22, 2, 23, 3, 24, 4, 25, 5, 26, 6, 27, 7, 28, 8);
        return x;
    }

    private static void thePlaceInARow() {
        due.promise(3, "from place i on: the row ends at a place below 0, and behind its last");
        int[][] cameFrom = {{-2, 0}, {-1, 0}, {0, 2}, {1, 2}, {2, 1}, {3, 1}, {4, 0}, {5, 0}, {6, 0}, {60, 0},
            {Integer.MIN_VALUE, 0}, {Integer.MAX_VALUE, 0}, {Integer.MAX_VALUE - 1, 0}};
        for (int[] row : cameFrom) {
            ScalesByHate x = new ScalesByHate();
            Bazaars.bytes(x, 0, 1, 2, 3, 4, 5);
            due.is("people(0, " + row[0] + ", 8) of five bytes", x.people(0, row[0], 8), row[1]);
            due.is("count(0)", x.count(0), row[1]);
            due.is("of(0, 0)", x.of(0, 0), row[1] == 0 ? BAD : row[0] + 1);
        }
        ScalesByHate longest = new ScalesByHate();
        longest.row(0, 0, 60);
        longest.put(0, 58, 44);
        longest.put(0, 59, 9);
        due.is("the last two of sixty", longest.people(0, 58, 8), 1);
        due.is("of(0, 0)", longest.of(0, 0), 44);
        due.is("of(0, 1)", longest.of(0, 1), 9);
        due.is("the last one of sixty", longest.people(0, 59, 8), 0);
        due.is("behind sixty", longest.people(0, 60, 8), 0);
    }

    private static void aTwoIsWhole() {
        due.promise(3, "the row ends within a two: those ahead came");
        int[] cameOf = {0, 0, 1, 1, 2, 2};
        for (int size = 0; size < cameOf.length; size++) {
            ScalesByHate x = new ScalesByHate();
            x.row(0, 0, size);
            due.is("people of " + size + " bytes", x.people(0, 0, 8), cameOf[size]);
            due.is("count(0)", x.count(0), cameOf[size]);
        }
    }

    private static void aTwoIsSo() {
        due.promise(3, "one that is not so ends it: those ahead came");
        int[][] twos = {{0, 0, 1}, {99, 9, 1}, {-1, 0, 0}, {100, 0, 0}, {0, -1, 0}, {0, 10, 0}, {127, 9, 0}, {-128, 9, 0},
            {99, 127, 0}, {99, -128, 0}};
        for (int[] two : twos) {
            ScalesByHate x = new ScalesByHate();
            Bazaars.bytes(x, 0, 5, 5, two[0], two[1], 6, 6);
            due.is("people of 5, 5, " + two[0] + ", " + two[1] + ", 6, 6", x.people(0, 0, 8), 1 + 2 * two[2]);
            due.is("count(0)", x.count(0), 1 + 2 * two[2]);
            due.is("of(1, 0)", x.of(1, 0), two[2] == 1 ? two[0] : BAD);
            due.is("of(1, 1)", x.of(1, 1), two[2] == 1 ? two[1] : BAD);
            due.is("from there on", x.people(0, 2, 8), 2 * two[2]);
        }
    }

    private static void aFullBazaarEndsTheRow() {
        due.promise(3, "PEOPLE are FULL: those ahead came");
        for (int there = 5; there <= 8; there++) {
            ScalesByHate x = Bazaars.of(there);
            Bazaars.bytes(x, 0, 1, 1, 2, 2, 3, 3, 4, 4);
            due.is("people with " + there + " there", x.people(0, 0, 4), Math.min(4, 8 - there));
            due.is("count(0)", x.count(0), 8);
            due.is("of(7, 0)", x.of(7, 0), there == 8 ? 20 : 8 - there);
        }
    }

    private static void theRowStays() {
        due.promise(3, "the ROW stays, coming is no CHANGE");
        ScalesByHate x = new ScalesByHate();
        Bazaars.bytes(x, 0, 1, 2);
        due.is("people(0, 0, 1)", x.people(0, 0, 1), 1);
        due.is("element(0, 0)", x.element(0, 0), 1);
        due.is("element(0, 1)", x.element(0, 1), 2);
        due.is("count(2)", x.count(2), 0);
        due.is("again", x.people(0, 0, 1), 1);
        due.is("count(0)", x.count(0), 2);
    }

    // ---- promises 4, 5

    private static void numbersBecome() {
        String[] names = {"HUNGER 0 .. 99", "WANTS 0 .. 9", "SOFTENS 0 .. 3", "FADES 0 .. 9", "GROWS 0 .. 20", "DAY 0 .. 99"};
        for (int what = 0; what <= 5; what++) {
            ScalesByHate x = Bazaars.of(1);
            due.promise(4, names[what] + " becomes v: what it was");
            int was = x.of(0, what);
            for (int v : new int[]{1, MOST[what] - 1, MOST[what], 0}) {
                due.is("mend(0, " + what + ", " + v + ")", x.mend(0, what, v), was);
                due.is("of(0, " + what + ")", x.of(0, what), v);
                was = v;
            }
            due.is("mend(0, " + what + ", -1)", x.mend(0, what, -1), BAD);
            due.is("mend above", x.mend(0, what, MOST[what] + 1), BAD);
            due.promise(5, names[what] + ", as of mend()");
            due.is("of(0, " + what + ") stays", x.of(0, what), 0);
        }
        ScalesByHate x = Bazaars.of(1);
        due.promise(4, "what is 0 .. 5");
        due.is("mend(0, -1, 0)", x.mend(0, -1, 0), BAD);
        due.is("mend(0, 6, 0)", x.mend(0, 6, 0), BAD);
        due.promise(5, "what is 0 .. 5");
        due.is("of(0, -1)", x.of(0, -1), BAD);
        due.is("of(0, 6)", x.of(0, 6), BAD);
    }

    private static void numbersOfEachAreHisOwn() {
        ScalesByHate x = Bazaars.of(8);
        due.promise(4, "HUNGER, WANTS of one");
        for (int one = 0; one < 8; one++) {
            due.is("mend(" + one + ", 0, ..)", x.mend(one, 0, 30 + one), 20);
            due.is("mend(" + one + ", 1, ..)", x.mend(one, 1, (one + 6) % 10), 5);
        }
        due.is("mend(8, 0, 1)", x.mend(8, 0, 1), BAD);
        due.is("mend(-1, 1, 1)", x.mend(-1, 1, 1), BAD);
        due.promise(5, "of one");
        for (int one = 0; one < 8; one++) {
            due.is("of(" + one + ", 0)", x.of(one, 0), 30 + one);
            due.is("of(" + one + ", 1)", x.of(one, 1), (one + 6) % 10);
        }
        due.is("of(8, 0)", x.of(8, 0), BAD);
        due.is("of(8, 1)", x.of(8, 1), BAD);
        due.is("of(-1, 0)", x.of(-1, 0), BAD);
        for (int what = 2; what <= 5; what++) {
            due.promise(4, "number 0 for these, else BAD");
            due.is("mend(1, " + what + ", 1)", x.mend(1, what, 1), BAD);
            due.is("mend(-1, " + what + ", 1)", x.mend(-1, what, 1), BAD);
            due.promise(5, "number 0 for these, else BAD");
            due.is("of(1, " + what + ")", x.of(1, what), BAD);
            due.is("of(-1, " + what + ")", x.of(-1, what), BAD);
            due.is("of(7, " + what + ")", x.of(7, what), BAD);
        }
        due.promise(4, "they are there without PEOPLE");
        ScalesByHate none = new ScalesByHate();
        due.is("mend(0, 4, 20)", none.mend(0, 4, 20), 6);
        due.is("of(0, 4)", none.of(0, 4), 20);
        due.is("mend(0, 0, 20)", none.mend(0, 0, 20), BAD);
    }

    // ---- promises 6, 7

    private static void feelingsBecome() {
        ScalesByHate x = Bazaars.of(2);
        due.promise(6, "FEELING (-9 .. 9) becomes v: what it was, and 100");
        int was = 0;
        for (int v = -9; v <= 9; v++) {
            due.is("feel(10, " + v + ")", x.feel(10, v), was + 100);
            due.is("feeling(10)", x.feeling(10), v + 100);
            was = v;
        }
        due.is("feel(10, 10)", x.feel(10, 10), BAD);
        due.is("feel(10, -10)", x.feel(10, -10), BAD);
        due.promise(7, "FEELING, and 100");
        due.is("feeling(10)", x.feeling(10), 109);
        due.is("the other's for the one", x.feeling(1), 100);
    }

    private static void feelingsAreOfOneForAnother() {
        ScalesByHate x = Bazaars.of(8);
        due.promise(6, "ab: 10 times the one, and the other, unlike");
        for (int ab = -20; ab <= 120; ab++) {
            int a = Math.floorDiv(ab, 10);
            int b = Math.floorMod(ab, 10);
            boolean isPair = a >= 0 && a < 8 && b < 8 && a != b;
            due.is("feel(" + ab + ", ..)", x.feel(ab, (ab + 30) % 9 + 1), isPair ? 100 : BAD);
        }
        due.promise(7, "ab");
        for (int ab = -20; ab <= 120; ab++) {
            int a = Math.floorDiv(ab, 10);
            int b = Math.floorMod(ab, 10);
            boolean isPair = a >= 0 && a < 8 && b < 8 && a != b;
            due.is("feeling(" + ab + ")", x.feeling(ab), isPair ? 101 + (ab + 30) % 9 : BAD);
        }
        ScalesByHate three = Bazaars.of(3);
        due.promise(6, "of PEOPLE there are");
        due.is("feel(20, 1)", three.feel(20, 1), 100);
        due.is("feel(30, 1)", three.feel(30, 1), BAD);
        due.is("feel(2, 1)", three.feel(2, 1), 100);
        due.is("feel(3, 1)", three.feel(3, 1), BAD);
        due.promise(7, "of PEOPLE there are");
        due.is("feeling(30)", three.feeling(30), BAD);
        due.is("feeling(3)", three.feeling(3), BAD);
    }

    // ---- promise 8

    private static void bytesCome() {
        due.promise(8, "a byte is 0 .. 255");
        ScalesByHate x = new ScalesByHate();
        due.is("feed(-1)", x.feed(-1), BAD);
        due.is("feed(0)", x.feed(0), 1);
        due.is("feed(255)", x.feed(255), 2);
        due.is("feed(256)", x.feed(256), BAD);
        due.is("feed('1' + 256)", x.feed('1' + 256), BAD);
        due.is("count(1)", x.count(1), 2);
        due.promise(8, "bytes are kept as they come");
        ScalesByHate y = new ScalesByHate();
        y.feed('1');
        y.feed(-1);
        y.feed('+');
        y.feed(256);
        y.feed('2');
        due.is("count(1)", y.count(1), 3);
        due.is("law()", y.law(), 1);
    }

    private static void theTapeHolds160() {
        due.promise(8, "FULL (160)");
        ScalesByHate x = new ScalesByHate();
        for (int i = 1; i <= 160; i++) {
            due.is("feed " + i, x.feed('7'), i);
        }
        due.is("feed 161", x.feed('7'), FULL);
        due.is("count(1)", x.count(1), 160);
        due.is("law(): the fifth digit", x.law(), -104);
        due.is("then the tape takes again", x.feed('7'), 1);
    }
}
