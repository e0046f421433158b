/** Promises 19 to 22: days that were seen, two by turns, bazaars by draws. */
public final class SeenTest {
    private static final int BAD = -1, NOT = -2;
    private static final Due due = new Due();

    public static void main(String[] args) {
        daysAreJudged();
        feelingsFit();
        hungersFit();
        twoPlayByTurns();
        bazaarsAreDrawn();
        due.end();
    }

    private static void daysAreJudged() {
        due.promise(19, "JUDGED");
        ScalesByHate x = Bazaars.ofOneBuyer();
        due.is("judge(-1, 0)", x.judge(-1, 0), BAD);
        due.is("judge(6, 0)", x.judge(6, 0), BAD);
        due.is("judge(0, 3)", x.judge(0, 3), BAD);
        due.is("judge(0, -1)", x.judge(0, -1), BAD);
        due.is("a bare shelf", x.judge(0, 0), -11);
        x.body(0);
        x.keep(0, 0);
        due.is("a needle", x.judge(0, 0), -12);
        x.row(0, 2, 3);
        due.is("a row of ints", x.judge(0, 0), -12);
        Bazaars.bytes(x, 0);
        due.is("no day was seen", x.judge(0, 0), NOT);
        Bazaars.bytes(x, 0, 1, 1, 1, 8, 8);
        due.is("1 weighs three days", x.judge(0, 0), NOT);
        due.is("not for 1", x.judge(0, 1), 0);
        Bazaars.bytes(x, 0, 1, 1, 1, 1);
        due.is("not a fourth", x.judge(0, 0), 3);
        Bazaars.bytes(x, 0, 9, 2, 9);
        due.is("2 did not", x.judge(0, 0), 1);
        Bazaars.bytes(x, 0, 9, 9, 9, 9, 8);
        due.is("not seen", x.judge(0, 0), NOT);
        int[] wrong = {10, -1, 7, 0, -128, 127};
        for (int by : wrong) {
            Bazaars.bytes(x, 0, 1, by);
            due.is("never so: " + by, x.judge(0, 0), 1);
        }
        x.row(1, 0, 60);
        for (int day = 0; day < 60; day++) {
            x.put(1, day, day < 3 ? 1 : day < 40 ? 8 : 5);
        }
        due.is("the first 40 count", x.judge(1, 0), NOT);
        x.put(1, 39, 5);
        due.is("the fortieth counts", x.judge(1, 0), 39);
        due.is("nothing went by", x.of(0, 5), 0);
    }

    private static void feelingsFit() {
        due.promise(20, "FELT");
        ScalesByHate x = Bazaars.ofOneBuyer();
        due.is("fits(-1, 10, 0)", x.fits(-1, 10, 0), BAD);
        due.is("fits(6, 10, 0)", x.fits(6, 10, 0), BAD);
        due.is("fits(0, 11, 0)", x.fits(0, 11, 0), BAD);
        due.is("fits(0, 30, 0)", x.fits(0, 30, 0), BAD);
        due.is("fits(0, 10, 3)", x.fits(0, 10, 3), BAD);
        due.is("fits(0, 10, -1)", x.fits(0, 10, -1), BAD);
        due.is("a bare shelf", x.fits(0, 10, 0), -11);
        x.row(0, 4, 3);
        due.is("booleans", x.fits(0, 10, 2), -12);
        Bazaars.bytes(x, 0);
        due.is("all fit", x.fits(0, 10, 0), 19);
        due.is("the least", x.fits(0, 10, 1), 91);
        Bazaars.bytes(x, 0, 1);
        due.is("he hated", x.fits(0, 10, 0), 9);
        Bazaars.bytes(x, 0, 1, 1, 1, 1);
        due.is("by 4 or more", x.fits(0, 10, 0), 6);
        due.is("the least is -9", x.fits(0, 10, 1), 91);
        Bazaars.bytes(x, 0, 1, 1, 1, 1, 8);
        due.is("by 4", x.fits(0, 10, 0), 1);
        due.is("that is -4", x.fits(0, 10, 1), 96);
        Bazaars.bytes(x, 0, 8);
        due.is("he did not", x.fits(0, 10, 0), 10);
        due.is("0 is the least", x.fits(0, 10, 1), 100);
        Bazaars.bytes(x, 0, 2);
        due.is("no feeling of 1's", x.fits(0, 10, 0), 0);
        due.is("no least", x.fits(0, 10, 1), NOT);
        Bazaars.bytes(x, 0, 1);
        due.is("of 2, a friend", x.fits(0, 20, 0), 9);
        due.is("the least is 1", x.fits(0, 20, 1), 101);
        due.is("as it was", x.feeling(10), 97);
    }

    private static void hungersFit() {
        due.promise(20, "HUNGRY");
        ScalesByHate x = Bazaars.of(4);
        x.feel(20, -1);
        x.feel(21, -1);
        x.feel(30, 1);
        x.feel(31, 1);
        Bazaars.bytes(x, 0, 2);
        due.is("1 was fed ahead of 0: hungrier than 20", x.fits(0, 1, 2), 79);
        due.is("0 was fed: 20 or more", x.fits(0, 20, 2), 80);
        due.is("whoever feels", x.fits(0, 30, 2), 80);
        Bazaars.bytes(x, 0, 8);
        due.is("0 was not: below 20", x.fits(0, 20, 2), 20);
        Bazaars.bytes(x, 0, 3);
        due.is("none", x.fits(0, 20, 2), 0);
        Bazaars.bytes(x, 0, 9, 9);
        due.is("all", x.fits(0, 20, 2), 100);
        due.is("as it was", x.of(0, 0), 20);
    }

    private static void twoPlayByTurns() {
        due.promise(21, "BY TURNS");
        ScalesByHate x = Bazaars.of(3);
        x.feel(20, 1);
        due.is("one wrongs: 8 + 5 - 2", x.byTurns(1, 1, 0), 9);
        due.is("he does", x.byTurns(1, 1, 1), 1);
        due.is("the other forgives", x.byTurns(1, 2, 0), 26);
        due.is("so he does not", x.byTurns(1, 2, 1), 0);
        due.is("he wrongs again", x.byTurns(1, 3, 0), 9);
        due.is("and has to from the first", x.byTurns(1, 3, 1), 1);
        x.feel(10, -2);
        due.is("from -2 the last is enough", x.byTurns(1, 3, 0), 9);
        due.is("of like ones 0", x.byTurns(1, 3, 1), 0);
        due.is("five turns: the last leads from 0 to -2", x.byTurns(1, 5, 0), 9);
        x.feel(10, 1);
        due.is("from 1 to -1: 12", x.byTurns(1, 1, 0), 8);
        x.feel(10, 2);
        due.is("from 2 to 0", x.byTurns(1, 1, 0), 26);
        due.is("nothing comes of it", x.byTurns(1, 1, 1), 0);
        due.is("three: 2, 0, 2, 0", x.byTurns(1, 3, 0), 26);
        x.feel(10, -9);
        due.is("-9 at least: 4", x.byTurns(1, 1, 0), 16);
        due.is("he leaves it", x.byTurns(1, 1, 1), 0);
        due.is("the other leaves it too", x.byTurns(1, 2, 0), 16);
        x.feel(10, -8);
        due.is("-8 is better than -9", x.byTurns(1, 1, 0), 15);
        x.feel(10, 8);
        x.feel(20, 0);
        x.feel(20, -1);
        due.is("1 is the friend: 9 at most", x.byTurns(1, 2, 0), 8);
        due.is("2 wrongs: the friend is 1", x.byTurns(2, 1, 0), 8);
        ScalesByHate bump = Bazaars.of(3);
        bump.feel(20, 1);
        bump.feel(10, -4);
        Bazaars.law(bump, "hate=4?1;20");
        due.is("from -4 to -6", bump.byTurns(1, 1, 0), 0);
        due.is("he does", bump.byTurns(1, 1, 1), 1);
        due.is("three: the last leads out as well", bump.byTurns(1, 3, 0), 0);
        due.is("so he need not", bump.byTurns(1, 3, 1), 0);
        due.is("two: the other leads back", bump.byTurns(1, 2, 0), 19);
        due.is("of like ones 0", bump.byTurns(1, 2, 1), 0);
        ScalesByHate less = Bazaars.of(3);
        less.feel(20, -1);
        less.feel(10, 9);
        Bazaars.law(less, "20-love*2");
        due.is("from 9 to 7", less.byTurns(1, 1, 0), 14);
        due.is("three: 7 at the last", less.byTurns(1, 3, 0), 14);
        due.is("two: back to 9", less.byTurns(1, 2, 0), 18);
        less.feel(10, 8);
        due.is("two: he wrongs, the other forgives", less.byTurns(1, 2, 0), 16);
        int[] bad = {0, 3, 30, -1, 22};
        for (int ab : bad) {
            due.is("byTurns(" + ab + ", 1, 0)", x.byTurns(ab, 1, 0), BAD);
        }
        due.is("no turn", x.byTurns(1, 0, 0), BAD);
        due.is("six turns", x.byTurns(1, 6, 0), BAD);
        due.is("what -1", x.byTurns(1, 1, -1), BAD);
        due.is("what 2", x.byTurns(1, 1, 2), BAD);
        due.is("feelings stay", x.feeling(10), 108);
    }

    private static ScalesByHate five() {
        ScalesByHate x = Bazaars.of(5);
        for (int a = 0; a < 5; a++) {
            x.feel(10 * a + (a + 2) % 5, 3 + a);
            x.feel(10 * a + (a + 3) % 5, a);
        }
        return x;
    }

    /** The same days, each bazaar made anew and its days gone by in deed. */
    private static int inDeed(int seed, int nmw, int one) {
        int z = seed;
        int all = 0;
        for (int i = 0; i < nmw / 10000; i++) {
            ScalesByHate x = five();
            for (int day = 0; day < nmw % 10000 / 100; day++) {
                z = z * 1103515245 + 12345;
                if ((z >>> 16) % 12 < nmw % 100) {
                    int w = (z >>> 8) % 5;
                    x.feel(10 * w + (w + 1 + (z >>> 4) % 4) % 5, -5);
                }
                x.day();
            }
            all += one == -1 ? x.led(1) : x.of(one, 0);
        }
        return all;
    }

    private static void bazaarsAreDrawn() {
        due.promise(22, "DRAWN");
        ScalesByHate x = Bazaars.ofOneBuyer();
        due.is("no wrath, a day", x.drawn(7, 10100, 0), 10);
        due.is("no wrath, three bazaars of a day", x.drawn(7, 30100, 0), 30);
        due.is("no wrath, two bazaars of 4 days", x.drawn(7, 20400, 0), 12);
        due.is("fed of them", x.drawn(7, 20400, -1), 6);
        int z = 5 * 1103515245 + 12345;
        int who = (z >>> 8) % 3;
        int whom = (who + 1 + (z >>> 4) % 2) % 3;
        x.feel(10 * who + whom, -5);
        int hunger = x.later(1, 0);
        int fed = x.later(1, -1);
        x.undo();
        due.is("a day of sure wrath, hunger", x.drawn(5, 10112, 0), hunger);
        due.is("a day of sure wrath, fed", x.drawn(5, 10112, -1), fed);
        for (int seed = -3; seed <= 40; seed++) {
            int sorts = 10000 * (1 + (seed & 3)) + 100 * (1 + (seed & 7)) + (seed + 3) % 13;
            due.is("drawn(" + seed + ", " + sorts + ", 4)", five().drawn(seed * 7919, sorts, 4), inDeed(seed * 7919, sorts, 4));
            due.is("drawn(" + seed + ", " + sorts + ", -1)", five().drawn(seed * 7919, sorts, -1), inDeed(seed * 7919, sorts, -1));
        }
        due.is("one alone", Bazaars.of(1).drawn(5, 10212, 0), 32);
        due.is("nobody", new ScalesByHate().drawn(5, 202012, -1), 0);
        due.is("nobody's hunger", new ScalesByHate().drawn(5, 202012, 0), BAD);
        int[] bad = {0, 100, 10000, 10013, 12100, 210100, 200099, -10101, Integer.MIN_VALUE, Integer.MAX_VALUE, 10199};
        for (int nmw : bad) {
            due.is("drawn(1, " + nmw + ", 0)", x.drawn(1, nmw, 0), BAD);
        }
        due.is("drawn(1, 10100, 3)", x.drawn(1, 10100, 3), BAD);
        due.is("drawn(1, 10100, -2)", x.drawn(1, 10100, -2), BAD);
        due.holds("the most is told", x.drawn(-7, 202012, 0) >= 0);
        due.is("feelings stay", x.feeling(10), 97);
    }
}
