import java.util.Arrays;

/** Promises 19 to 22, sentence by sentence: the last that is taken and the first that is not, on both sides. */
public final class SeenEdgesTest {
    private static final int BAD = -1, NOT = -2, NOTHING = -11, KIND = -12;
    private static final Due due = new Due();

    public static void main(String[] args) {
        bytesToldByWhom();
        theFirstDayThatIsNotSo();
        theFirst40Count();
        rowsOfBytesAlone();
        howManyFeelingsFit();
        feelingsFrom9BelowTo9Fit();
        howManyHungersFit();
        fitsIsOfTheLatter();
        fitsIsOfEachPair();
        fitsIsAskedWhat();
        fitsCounts40();
        turnsTakeTurns();
        wrongsAreHeldAt9Below();
        forgivingIsHeldAt9();
        aDayBehindAllTurns();
        whetherHeWrongsFirst();
        turnsAreAskedOf();
        bazaarsAndDaysAreCounted();
        wrathIsBelow12();
        theDrawMakesHate();
        twoPeopleOrMore();
        seedsGoOn();
        due.end(19, 22);
    }

    // ---- promise 19

    /** 0 is weighed for by one, 5 (or 4) standing by, until the hate is out. */
    private static ScalesByHate weighedBy(int who, int hate) {
        ScalesByHate x = Bazaars.of(8);
        x.feel(10 * who, -hate);
        x.feel(who == 5 ? 40 : 50, 9);
        return x;
    }

    private static void bytesToldByWhom() {
        due.promise(19, "by whom one was weighed for (0 .. 7; 8: not FED; 9: not seen)");
        for (int who = 1; who <= 7; who++) {
            for (int told = -128; told <= 127; told++) {
                ScalesByHate x = weighedBy(who, 1);
                Bazaars.bytes(x, 2, told);
                due.is("by " + who + ", told " + told, x.judge(2, 0), told == who || told == 9 ? NOT : 0);
            }
        }
        for (int told = -128; told <= 127; told++) {
            ScalesByHate x = Bazaars.of(8);
            x.feel(7, -1);
            x.feel(37, 1);
            Bazaars.bytes(x, 0, told);
            due.is("by 0, told " + told, x.judge(0, 7), told == 0 || told == 9 ? NOT : 0);
            due.is("not FED, told " + told, x.judge(0, 3), told == 8 || told == 9 ? NOT : 0);
        }
    }

    private static void theFirstDayThatIsNotSo() {
        due.promise(19, "the first DAY (from 0) that is not so; NOT");
        int[] seen = {6, 6, 6, 8, 8};
        for (int wrong = 0; wrong < 5; wrong++) {
            for (int second = wrong; second < 5; second++) {
                ScalesByHate x = weighedBy(6, 3);
                Bazaars.bytes(x, 0, seen);
                x.put(0, second, 5);
                x.put(0, wrong, seen[wrong] == 6 ? 8 : 6);
                due.is("not so on days " + wrong + ", " + second, x.judge(0, 0), wrong);
            }
        }
        ScalesByHate x = weighedBy(6, 3);
        Bazaars.bytes(x, 0, seen);
        due.is("all so", x.judge(0, 0), NOT);
        Bazaars.bytes(x, 0);
        due.is("a row of none", x.judge(0, 0), NOT);
        Bazaars.bytes(x, 0, 9, 9, 9, 9, 9, 9);
        due.is("nothing seen", x.judge(0, 0), NOT);
        due.is("nothing seen of another", x.judge(0, 7), NOT);
        Bazaars.bytes(x, 0, 9, 9, 6, 6);
        due.is("days not seen go by", x.judge(0, 0), 3);
        due.promise(19, "from now on");
        x.day();
        Bazaars.bytes(x, 0, 6, 6, 8);
        due.is("a day later", x.judge(0, 0), NOT);
    }

    private static void theFirst40Count() {
        due.promise(19, "the first 40 count");
        for (int size : new int[]{39, 40, 41, 60}) {
            for (int at : new int[]{38, 39, 40, 41, 59}) {
                if (at < size) {
                    ScalesByHate x = Bazaars.of(2);
                    x.row(0, 0, size);
                    for (int i = 0; i < size; i++) {
                        x.put(0, i, 8);
                    }
                    x.put(0, at, 1);
                    due.is("not so at " + at + " of " + size, x.judge(0, 0), at < 40 ? at : NOT);
                }
            }
        }
    }

    private static void rowsOfBytesAlone() {
        for (int promise = 19; promise <= 20; promise++) {
            due.promise(promise, "BAD, -11, -12 (no ROW of bytes), SHELVES 0 .. 5");
            ScalesByHate x = Bazaars.of(2);
            x.body(0);
            for (int shelf = -1; shelf <= 6; shelf++) {
                boolean is = shelf >= 0 && shelf <= 5;
                due.is("nothing on " + shelf, asked(x, promise, shelf), is ? NOTHING : BAD);
                x.keep(shelf, 0);
                due.is("a needle on " + shelf, asked(x, promise, shelf), is ? KIND : BAD);
                for (int sort = 1; sort <= 4; sort++) {
                    x.row(shelf, sort, 3);
                    due.is("a row of sort " + sort + " on " + shelf, asked(x, promise, shelf), is ? KIND : BAD);
                }
                x.row(shelf, 0, 0);
                due.is("bytes on " + shelf, asked(x, promise, shelf), is ? promise == 19 ? NOT : 19 : BAD);
            }
        }
        due.promise(19, "of one that is there");
        ScalesByHate x = Bazaars.of(2);
        x.row(0, 0, 0);
        due.is("judge(0, 1)", x.judge(0, 1), NOT);
        due.is("judge(0, 2)", x.judge(0, 2), BAD);
        due.is("judge(0, -1)", x.judge(0, -1), BAD);
    }

    private static int asked(ScalesByHate x, int promise, int shelf) {
        return promise == 19 ? x.judge(shelf, 0) : x.fits(shelf, 1, 0);
    }

    // ---- promise 20

    private static ScalesByHate seen(ScalesByHate x, int... row) {
        Bazaars.bytes(x, 0, row);
        return x;
    }

    private static void howManyFeelingsFit() {
        due.promise(20, "for which FEELINGS (-9 .. 9) all is so: how many, the least, and 100 (NOT)");
        for (int hate = 1; hate <= 9; hate++) {
            int[] row = new int[hate + 1];
            Arrays.fill(row, 6);
            row[hate] = 8;
            ScalesByHate x = seen(weighedBy(6, 2), row);
            due.is(hate + " days: how many", x.fits(0, 60, 0), 1);
            due.is(hate + " days: the least", x.fits(0, 60, 1), 100 - hate);
            row[hate] = 6;
            x = seen(x, row);
            due.is("more than " + hate + " days: how many", x.fits(0, 60, 0), 9 - hate);
            due.is("more than " + hate + " days: the least", x.fits(0, 60, 1), hate == 9 ? NOT : 91);
        }
        ScalesByHate x = seen(weighedBy(6, 2), 8);
        due.is("not FED: 0 .. 9", x.fits(0, 60, 0), 10);
        due.is("not FED: the least", x.fits(0, 60, 1), 100);
        x = seen(x, 5);
        due.is("by another: none", x.fits(0, 60, 0), 0);
        due.is("by another: no least", x.fits(0, 60, 1), NOT);
        x = seen(x);
        due.is("nothing seen: all", x.fits(0, 60, 0), 19);
        due.is("nothing seen: the least", x.fits(0, 60, 1), 91);
        due.is("the feeling stays", x.feeling(60), 98);
    }

    private static void feelingsFrom9BelowTo9Fit() {
        due.promise(20, "-9 is asked, and 9");
        ScalesByHate x = Bazaars.of(4);
        x.feel(10, -2);
        x.feel(20, -1);
        x.feel(30, 8);
        Bazaars.law(x, "hate=9?5;hate=2?3;1");
        due.is("by 2 only with -9", seen(x, 2).fits(0, 20, 0), 1);
        due.is("that is -9", x.fits(0, 20, 1), 91);
        due.is("by 1 with all others", seen(x, 1).fits(0, 20, 0), 18);
        ScalesByHate y = Bazaars.of(4);
        y.feel(10, -3);
        y.feel(20, -4);
        y.feel(30, 8);
        Bazaars.law(y, "love=9&hate=4?9;hate=3?5;1");
        due.is("by 2 only with a love of 9", seen(y, 2).fits(0, 30, 0), 1);
        due.is("that is 9", y.fits(0, 30, 1), 109);
        due.is("by 1 with all loves below", seen(y, 1).fits(0, 30, 0), 8);
        due.is("the least is 1", y.fits(0, 30, 1), 101);
    }

    private static void howManyHungersFit() {
        due.promise(20, "for how many of his HUNGERS (0 .. 99) all is so");
        for (int hunger : new int[]{0, 1, 50, 98, 99}) {
            ScalesByHate x = Bazaars.of(4);
            x.feel(10, -3);
            x.feel(20, -4);
            x.feel(30, 1);
            Bazaars.law(x, "hate=4&hunger=" + hunger + "?9;hate=3?5;1");
            due.is("by 2 with " + hunger + " alone", seen(x, 2).fits(0, 10, 2), 1);
            due.is("by 1 with all others", seen(x, 1).fits(0, 10, 2), 99);
            due.is("not FED with none", seen(x, 8).fits(0, 10, 2), 0);
            due.is("not seen: with all", seen(x, 9).fits(0, 10, 2), 100);
            due.is("hunger stays", x.of(0, 0), 20);
        }
    }

    private static void fitsIsOfTheLatter() {
        due.promise(20, "ab: whose FEELING, and for whom, whose DAYS were seen; HUNGRY of the latter");
        ScalesByHate x = Bazaars.of(5);
        x.feel(31, -2);
        x.feel(41, 1);
        seen(x, 3, 3, 8);
        due.is("3's for 1: -2 alone", x.fits(0, 31, 0), 1);
        due.is("that is -2", x.fits(0, 31, 1), 98);
        due.is("1's for 3: 3 was not FED", x.fits(0, 13, 0), 0);
        due.is("4's for 1: a love", x.fits(0, 41, 0), 9);
        due.is("the least love", x.fits(0, 41, 1), 101);
        due.is("2's for 1: no hate of more than 2's, and none by whom more is weighed out", x.fits(0, 21, 0), 10);
        due.is("1's hungers", x.fits(0, 31, 2), 100);
        due.is("3's hungers", x.fits(0, 13, 2), 0);
        x.feel(32, -9);
        x.feel(42, 1);
        x.mend(2, 0, 50);
        due.is("1's hungers of 2's or more", seen(x, 3).fits(0, 31, 2), 50);
        due.is("whoever feels", x.fits(0, 1, 2), 50);
    }

    private static void fitsIsOfEachPair() {
        due.promise(20, "of each pair");
        ScalesByHate x = Bazaars.feeling(8, 1);
        for (int ab = 0; ab < 80; ab++) {
            if (Bazaars.isPairOfEight(ab)) {
                seen(x, ab / 10, ab / 10, 9, 8);
                due.is("fits(0, " + ab + ", 0): -2, -3", x.fits(0, ab, 0), 2);
                due.is("fits(0, " + ab + ", 1)", x.fits(0, ab, 1), 97);
            }
        }
    }

    private static void fitsIsAskedWhat() {
        due.promise(20, "what 0 .. 2, of a pair");
        ScalesByHate x = seen(Bazaars.of(2));
        due.is("fits(0, 1, -1)", x.fits(0, 1, -1), BAD);
        due.is("fits(0, 1, 0)", x.fits(0, 1, 0), 19);
        due.is("fits(0, 1, 1)", x.fits(0, 1, 1), 91);
        due.is("fits(0, 1, 2)", x.fits(0, 1, 2), 100);
        due.is("fits(0, 1, 3)", x.fits(0, 1, 3), BAD);
        for (int ab : new int[]{-1, 0, 2, 11, 12, 20, 100}) {
            for (int what = 0; what <= 2; what++) {
                due.is("fits(0, " + ab + ", " + what + ")", x.fits(0, ab, what), BAD);
            }
        }
    }

    private static void fitsCounts40() {
        due.promise(20, "the first 40 count");
        ScalesByHate x = Bazaars.of(2);
        x.row(0, 0, 60);
        for (int i = 0; i < 60; i++) {
            x.put(0, i, i < 40 ? 8 : 5);
        }
        due.is("how many", x.fits(0, 1, 0), 19);
        due.is("hungers", x.fits(0, 1, 2), 100);
        x.put(0, 39, 5);
        due.is("how many, 39 not so", x.fits(0, 1, 0), 0);
        due.is("the least, 39 not so", x.fits(0, 1, 1), NOT);
        due.is("hungers, 39 not so", x.fits(0, 1, 2), 0);
    }

    // ---- promise 21

    /** 0 and 1 play; 2 stands by; by the law each feeling of 1's for 0 below 0 feeds 0 by what is told for it. */
    private static ScalesByHate played(int felt, String law) {
        ScalesByHate x = Bazaars.of(3);
        x.mend(0, 0, 50);
        x.feel(10, felt);
        x.feel(20, 1);
        Bazaars.law(x, law);
        return x;
    }

    private static void turnsTakeTurns() {
        due.promise(21, "n (1 .. 5) times in all, the one first, each does it or not");
        int[] dueOf = {0, 48, 56, 48, 56, 48};
        for (int n = 1; n <= 5; n++) {
            due.is("from 0, " + n + " times", played(0, "hate").byTurns(1, n, 0), dueOf[n]);
        }
        int[] fromTwo = {0, 56, 56, 56, 56, 56};
        int[] fromOne = {0, 49, 56, 49, 56, 49};
        int[] fromBelow = {0, 46, 48, 46, 48, 46};
        for (int n = 1; n <= 5; n++) {
            due.is("from 2, " + n + " times", played(2, "hate").byTurns(1, n, 0), fromTwo[n]);
            due.is("from 1, " + n + " times", played(1, "hate").byTurns(1, n, 0), fromOne[n]);
            due.is("from -2, " + n + " times", played(-2, "hate").byTurns(1, n, 0), fromBelow[n]);
        }
        due.promise(21, "the one wants his HUNGER least, the other most");
        String law = "hate=6?30;hate=4?20;hate=2?10;1";
        int[] leaps = {0, 20, 30, 20, 30, 20};
        for (int n = 1; n <= 5; n++) {
            due.is("from -4, " + n + " times", played(-4, law).byTurns(1, n, 0), leaps[n]);
        }
        String dip = "hate=4?0;20";
        for (int n = 1; n <= 5; n++) {
            due.is("from -4 by a dip, " + n + " times", played(-4, dip).byTurns(1, n, 0), n % 2 == 1 ? 30 : 50);
        }
        due.promise(21, "n is 1 .. 5");
        due.is("0 times", played(0, law).byTurns(1, 0, 0), BAD);
        due.is("6 times", played(0, law).byTurns(1, 6, 0), BAD);
    }

    private static void wrongsAreHeldAt9Below() {
        due.promise(21, "WRONG: 2 less, -9 at least");
        String law = "hate=9?30;hate=8?20;10";
        due.is("from -9", played(-9, law).byTurns(1, 1, 0), 20);
        due.is("from -8", played(-8, law).byTurns(1, 1, 0), 20);
        due.is("from -7", played(-7, law).byTurns(1, 1, 0), 20);
        due.is("from -6", played(-6, law).byTurns(1, 1, 0), 30);
        due.is("from -5", played(-5, law).byTurns(1, 1, 0), 40);
        due.is("from -5, three times", played(-5, law).byTurns(1, 3, 0), 40);
        due.is("from 1", played(1, law).byTurns(1, 1, 0), 40);
        due.is("from 2", played(2, law).byTurns(1, 1, 0), 56);
    }

    private static void forgivingIsHeldAt9() {
        due.promise(21, "FORGIVE: 2 more, 9 at most");
        for (int felt = -9; felt <= 9; felt++) {
            ScalesByHate x = Bazaars.of(3);
            x.mend(0, 0, 50);
            x.feel(20, -1);
            x.feel(10, felt);
            Bazaars.law(x, "20-love");
            int end = Math.min(9, felt + 2);
            int still = felt > 0 ? 50 - 20 + felt : 56;
            int wrongedThenForgiven = Math.min(9, Math.max(-9, felt - 2) + 2);
            int most = Math.max(hungerBy(felt), hungerBy(end));
            int other = Math.max(hungerBy(Math.max(-9, felt - 2)), hungerBy(wrongedThenForgiven));
            due.is("from " + felt + ", twice", x.byTurns(1, 2, 0), Math.min(most, other));
            due.is("from " + felt + ", once", x.byTurns(1, 1, 0), Math.min(still, hungerBy(Math.max(-9, felt - 2))));
        }
        String law = "hate=9?1;hate=7?0;hate=8?2;5";
        due.is("from -9 he forgives to -7", played(-9, law).byTurns(1, 2, 0), 50);
        due.is("from -8 to -6, or not: -9 is worst", played(-8, "hate=8?1;hate=6?2;3").byTurns(1, 2, 0), 47);
    }

    private static int hungerBy(int felt) {
        return felt > 0 ? 50 - 20 + felt : 56;
    }

    private static void aDayBehindAllTurns() {
        due.promise(21, "behind them a DAY goes by");
        for (int n = 1; n <= 5; n++) {
            ScalesByHate x = Bazaars.of(2);
            due.is("one day's growth, " + n + " times", x.byTurns(1, n, 0), 26);
            x.mend(0, 4, 0);
            due.is("no growth, " + n + " times", x.byTurns(10, n, 0), 20);
        }
        ScalesByHate x = played(-1, "day+5");
        x.mend(0, 5, 7);
        due.is("the day's law", x.byTurns(1, 5, 0), 38);
        due.is("nothing went by", x.of(0, 5), 7);
        due.is("the feeling stays", x.feeling(10), 99);
        due.is("led(3)", x.led(3), 0);
    }

    private static void whetherHeWrongsFirst() {
        due.promise(21, "whether the one WRONGS first (1, 0; of like ones 0)");
        due.is("he has to", played(0, "hate").byTurns(1, 1, 1), 1);
        due.is("it is of no use", played(2, "hate").byTurns(1, 1, 1), 0);
        due.is("it harms him", played(-1, "9-hate").byTurns(1, 1, 1), 0);
        due.is("it can't be more", played(-9, "hate").byTurns(1, 1, 1), 0);
        due.is("from -8 to -9", played(-8, "hate").byTurns(1, 1, 1), 1);
        due.is("he is forgiven", played(0, "hate").byTurns(1, 2, 1), 0);
        due.is("from -1 he wrongs, and is forgiven", played(-1, "hate").byTurns(1, 2, 1), 1);
        due.is("he has to, for the third", played(1, "hate").byTurns(1, 3, 1), 1);
        due.is("the other", played(0, "hate").byTurns(10, 1, 1), 0);
        due.promise(21, "what is 0, 1");
        due.is("what -1", played(0, "hate").byTurns(1, 1, -1), BAD);
        due.is("what 2", played(0, "hate").byTurns(1, 1, 2), BAD);
    }

    private static void turnsAreAskedOf() {
        due.promise(21, "ab: the one, and the other, unlike");
        ScalesByHate x = Bazaars.of(8);
        x.feel(67, -1);
        x.feel(57, 1);
        due.is("7 and 6", x.byTurns(76, 1, 0), 8);
        due.is("6 and 7", x.byTurns(67, 1, 0), 26);
        due.is("7 and 5: 5's love", x.byTurns(75, 1, 0), 8);
        x.feel(47, -2);
        x.feel(67, 0);
        due.is("7 and 4", x.byTurns(74, 1, 0), 9);
        ScalesByHate loving = Bazaars.feeling(8, 1);
        for (int ab = -20; ab <= 120; ab++) {
            due.is("byTurns(" + ab + ", 1, 0)", loving.byTurns(ab, 1, 0), Bazaars.isPairOfEight(ab) ? 8 : BAD);
            due.is("byTurns(" + ab + ", 2, 0)", loving.byTurns(ab, 2, 0), Bazaars.isPairOfEight(ab) ? 26 : BAD);
        }
    }

    // ---- promise 22

    private static int next(int z) {
        return z * 1103515245 + 12345;
    }

    private static void bazaarsAndDaysAreCounted() {
        due.promise(22, "n bazaars (1 .. 20) of m DAYS (1 .. 20), nmw: 10000 n, 100 m, and WRATH");
        ScalesByHate x = Bazaars.ofOneBuyer();
        x.mend(0, 2, 0);
        x.mend(0, 4, 1);
        for (int n = 0; n <= 21; n++) {
            for (int m : new int[]{0, 1, 2, 19, 20, 21}) {
                boolean is = n >= 1 && n <= 20 && m >= 1 && m <= 20;
                due.is("FED of " + n + " of " + m, x.drawn(5, 10000 * n + 100 * m, -1), is ? n * m : BAD);
                due.is("HUNGER of 1, of " + n + " of " + m, x.drawn(5, 10000 * n + 100 * m, 1), is ? n * (20 + m) : BAD);
            }
        }
        due.is("HUNGER of 0", x.drawn(5, 30100, 0), 30);
        due.is("m 99", x.drawn(5, 19900, 0), BAD);
        due.is("n 100", x.drawn(5, 1000100, 0), BAD);
        due.is("below 0", x.drawn(5, -10100, 0), BAD);
        due.is("of one not there", x.drawn(5, 10100, 3), BAD);
        due.is("of -2", x.drawn(5, 10100, -2), BAD);
        due.is("nothing went by", x.of(0, 5), 0);
    }

    /** A seed whose first draw is a told number of twelve. */
    private static int seedOf(int twelfth) {
        int seed = 1;
        while ((next(seed) >>> 16) % 12 != twelfth) {
            seed++;
        }
        return seed;
    }

    private static void wrathIsBelow12() {
        due.promise(22, "(z >>> 16) % 12 is below WRATH (0 .. 12)");
        for (int twelfth = 0; twelfth < 12; twelfth++) {
            int seed = seedOf(twelfth);
            int z = next(seed);
            int w = (z >>> 8) % 4;
            int b = (w + 1 + (z >>> 4) % 3) % 4;
            for (int wrath = 0; wrath <= 12; wrath++) {
                ScalesByHate x = Bazaars.of(4);
                for (int a = 0; a < 4; a++) {
                    x.feel(10 * a + b, a == w ? 0 : 1);
                }
                due.is("a draw of " + twelfth + " by wrath " + wrath, x.drawn(seed, 10100 + wrath, -1), twelfth < wrath ? 1 : 0);
            }
            due.is("wrath 13", Bazaars.of(4).drawn(seed, 10113, -1), BAD);
            due.is("wrath 99", Bazaars.of(4).drawn(seed, 10199, -1), BAD);
        }
    }

    private static void theDrawMakesHate() {
        due.promise(22, "w's FEELING for b becomes -5");
        for (int people = 3; people <= 8; people++) {
            for (int seed = -40; seed < 40; seed++) {
                int z = next(seed * 104729);
                int w = (z >>> 8) % people;
                int b = (w + 1 + (z >>> 4) % (people - 1)) % people;
                ScalesByHate x = Bazaars.of(people);
                for (int a = 0; a < people; a++) {
                    for (int c = 0; c < people; c++) {
                        if (a != c) {
                            x.feel(10 * a + c, 1 + (a + c) % 3);
                        }
                    }
                }
                for (int one = 0; one < people; one++) {
                    due.is("hunger of " + one + " of " + people, x.drawn(seed * 104729, 10112, one), one == b ? 20 - 8 : 26);
                }
                ScalesByHate y = Bazaars.of(people);
                for (int a = 0; a < people; a++) {
                    y.feel(10 * a + b, a == w ? -9 : 1);
                }
                due.is("a hate of 9 becomes one of 5", y.drawn(seed * 104729, 10112, b), 12);
            }
        }
    }

    private static void twoPeopleOrMore() {
        due.promise(22, "if there are two PEOPLE or more");
        due.is("nobody", new ScalesByHate().drawn(3, 202012, -1), 0);
        due.is("one alone", Bazaars.of(1).drawn(3, 10112, 0), 26);
        for (int seed = 0; seed < 40; seed++) {
            int z = next(seed);
            int w = (z >>> 8) % 2;
            ScalesByHate x = Bazaars.of(2);
            Bazaars.law(x, "1");
            due.is("of two nobody has a friend", x.drawn(seed, 10112, -1), 0);
            x.feel(1, 9);
            x.feel(10, 9);
            due.is("of two the only friend hates", x.drawn(seed, 10112, 1 - w), 26);
            due.is("and his own hunger", x.drawn(seed, 10112, w), 26);
        }
        ScalesByHate two = Bazaars.of(2);
        two.feel(1, 1);
        two.mend(0, 3, 5);
        due.is("hunger of two at the ends", two.drawn(7, 200112, 0), 20 * 26);
    }

    private static void seedsGoOn() {
        due.promise(22, "z = z * 1103515245 + 12345, SEED at first, ahead of each DAY");
        int[] seeds = {0, 1, -1, 12345, Integer.MIN_VALUE, Integer.MAX_VALUE, 987654321};
        for (int seed : seeds) {
            for (int wrath = 0; wrath <= 12; wrath += 4) {
                int z = seed;
                int[] hunger = new int[3];
                int fed = 0;
                for (int n = 0; n < 4; n++) {
                    ScalesByHate x = three();
                    for (int day = 0; day < 3; day++) {
                        z = next(z);
                        if ((z >>> 16) % 12 < wrath) {
                            int w = (z >>> 8) % 3;
                            x.feel(10 * w + (w + 1 + (z >>> 4) % 2) % 3, -5);
                        }
                        fed += x.day();
                    }
                    for (int one = 0; one < 3; one++) {
                        hunger[one] += x.of(one, 0);
                    }
                }
                for (int one = 0; one < 3; one++) {
                    due.is("HUNGER, seed " + seed + ", wrath " + wrath, three().drawn(seed, 40300 + wrath, one), hunger[one]);
                }
                due.is("FED, seed " + seed + ", wrath " + wrath, three().drawn(seed, 40300 + wrath, -1), fed);
            }
        }
    }

    private static ScalesByHate three() {
        ScalesByHate x = Bazaars.of(3);
        int[][] feelings = {{1, 2}, {2, 3}, {10, 4}, {12, 5}, {20, 6}, {21, 7}};
        for (int[] felt : feelings) {
            x.feel(felt[0], felt[1]);
        }
        return x;
    }
}
