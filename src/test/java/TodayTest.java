/** Promises 10 to 18: who can eat today, at what harm, who lacks a friend, days in thought, rings. */
public final class TodayTest {
    private static final int BAD = -1, NOT = -2;
    private static final Due due = new Due();

    public static void main(String[] args) {
        asManyAsCanBePaired();
        harmIsLeast();
        friendsAreLacked();
        daysGoBy();
        theHungriestBuysFirst();
        feelingsFadeLater();
        feedingLasts();
        feelingsAreRenewed();
        hateIsWorth();
        ringsAreFound();
        thoughtChangesNothing();
        theLastOfEightEat();
        due.end();
    }

    /** All love all by 1, so that a friend stands by, but for whom feelings say other. */
    private static ScalesByHate loving(int people) {
        ScalesByHate x = Bazaars.of(people);
        for (int a = 0; a < people; a++) {
            for (int b = 0; b < people; b++) {
                if (a != b) {
                    x.feel(10 * a + b, 1);
                }
            }
        }
        return x;
    }

    private static void asManyAsCanBePaired() {
        due.promise(10, "PAIRED");
        ScalesByHate none = new ScalesByHate();
        due.is("paired(-1), none there", none.paired(-1), 0);
        due.is("paired(0), none there", none.paired(0), BAD);
        due.is("paired(-2)", none.paired(-2), BAD);
        ScalesByHate x = loving(4);
        due.is("nobody hates", x.paired(-1), 0);
        due.is("nobody weighs for 0", x.paired(0), 8);
        x.feel(30, -1);
        x.feel(31, -1);
        x.feel(20, -1);
        due.is("3 for 1, 2 for 0", x.paired(-1), 2);
        due.is("paired(0)", x.paired(0), 2);
        due.is("paired(1)", x.paired(1), 3);
        due.is("paired(2)", x.paired(2), 8);
        due.is("paired(4)", x.paired(4), BAD);
        x.feel(20, 1);
        due.is("one of 0 and 1", x.paired(-1), 1);
        due.is("the first has a weigher: above all numbers is nobody", x.paired(0), 3);
        due.is("so 1 has none", x.paired(1), 8);
        x.feel(21, -1);
        due.is("both again", x.paired(-1), 2);
        due.is("0 by 3", x.paired(0), 3);
        due.is("1 by 2", x.paired(1), 2);
        ScalesByHate friendless = Bazaars.of(3);
        friendless.feel(10, -5);
        due.is("a weigher without a friend", friendless.paired(-1), 0);
        friendless.feel(20, 1);
        due.is("with a friend", friendless.paired(-1), 1);
        due.is("by 1", friendless.paired(0), 1);
        friendless.feel(10, 0);
        due.is("who feels nothing weighs not", friendless.paired(-1), 0);
        ScalesByHate full = loving(8);
        for (int b = 0; b < 8; b++) {
            for (int a = 0; a < 8; a++) {
                if (a != b && a != (b + 7) % 8) {
                    full.feel(10 * a + b, -1);
                }
            }
        }
        due.is("all of eight", full.paired(-1), 8);
        int[] first = {1, 2, 0, 4, 5, 6, 7, 3};
        for (int b = 0; b < 8; b++) {
            due.is("first of eight, " + b, full.paired(b), first[b]);
        }
    }

    private static void harmIsLeast() {
        due.promise(11, "HARM");
        ScalesByHate x = new ScalesByHate();
        due.is("harm(-1), none there", x.harm(-1), 0);
        due.is("harm(0), none there", x.harm(0), BAD);
        x.person(1, 1);
        due.is("one alone: no way", x.harm(-1), NOT);
        due.is("one alone, himself", x.harm(0), NOT);
        due.is("one alone, and not there", x.harm(1), BAD);
        due.is("harm(-2)", x.harm(-2), BAD);
        x.person(1, 1);
        x.feel(1, 9);
        x.feel(10, 9);
        due.is("two: the only friend can't weigh", x.harm(-1), NOT);
        ScalesByHate y = loving(3);
        due.is("three who love by 1", y.harm(-1), 6);
        due.is("0 by 1", y.harm(0), 1);
        due.is("1 by 2", y.harm(1), 2);
        due.is("2 by 0", y.harm(2), 0);
        y.feel(2, 0);
        due.is("at 0 the price is 1", y.harm(-1), 5);
        y.feel(2, -1);
        due.is("a hater is free", y.harm(-1), 4);
        y.feel(2, -9);
        due.is("however he hates", y.harm(-1), 4);
        y.feel(10, 9);
        due.is("of 2 only 1 is a friend: no other way", y.harm(-1), 12);
        y.feel(2, 1);
        due.is("the other way round", y.harm(-1), 6);
        due.is("0 by 2", y.harm(0), 2);
        due.is("1 by 0", y.harm(1), 0);
        due.is("2 by 1", y.harm(2), 1);
        y.feel(12, 0);
        due.is("1 is no friend, and costs 1", y.harm(-1), 5);
        y.feel(2, -3);
        due.is("nobody loves 2", y.harm(-1), NOT);
        due.is("so nobody weighs for anybody", y.harm(0), NOT);
        y.feel(10, 1);
        due.is("feelings stay", y.feeling(10), 101);
    }

    private static void friendsAreLacked() {
        due.promise(12, "LACKS, LOVED, HATED");
        ScalesByHate x = new ScalesByHate();
        due.is("lacks(0, 0), none there", x.lacks(0, 0), 0);
        due.is("lacks(0, 1), none there", x.lacks(0, 1), BAD);
        for (int i = 0; i < 4; i++) {
            x.person(1, 1);
        }
        due.is("all lack", x.lacks(0, 0), 15);
        x.feel(1, 1);
        x.feel(31, 9);
        x.feel(21, -9);
        x.feel(30, -1);
        x.feel(23, 2);
        due.is("0 and 2 lack", x.lacks(0, 0), 5);
        due.is("two love 1", x.lacks(1, 1), 2);
        due.is("one hates 1", x.lacks(1, 2), 1);
        due.is("none loves 0", x.lacks(0, 1), 0);
        due.is("one hates 0", x.lacks(0, 2), 1);
        due.is("lacks(1, 0)", x.lacks(1, 0), BAD);
        due.is("lacks(-1, 0)", x.lacks(-1, 0), BAD);
        due.is("lacks(-1, 1)", x.lacks(-1, 1), BAD);
        due.is("lacks(4, 2)", x.lacks(4, 2), BAD);
        due.is("lacks(0, 3)", x.lacks(0, 3), BAD);
        due.is("lacks(0, -1)", x.lacks(0, -1), BAD);
    }

    private static void daysGoBy() {
        due.promise(13, "BEHIND n DAYS; promise 14, FEELING then");
        ScalesByHate x = Bazaars.ofOneBuyer();
        due.is("later(0, 0)", x.later(0, 0), 20);
        due.is("later(0, -1)", x.later(0, -1), 0);
        due.is("10 are weighed out", x.later(1, 0), 10);
        due.is("then 11, held at 0", x.later(2, 0), 0);
        due.is("third day", x.later(3, -1), 3);
        due.is("the hate is out: 6 more", x.later(4, 0), 6);
        due.is("no more is fed", x.later(40, -1), 3);
        due.is("hunger at most 99", x.later(40, 0), 99);
        due.is("those not fed", x.later(2, 1), 32);
        due.is("his feeling", x.feltLater(2, 10), 99);
        due.is("and softened out", x.feltLater(40, 10), 100);
        x.mend(0, 2, 3);
        due.is("three at once", x.feltLater(1, 10), 100);
        x.feel(10, -1);
        due.is("beyond 0", x.feltLater(1, 10), 102);
        x.mend(0, 2, 0);
        due.is("not at all", x.later(40, -1), 40);
        x.mend(0, 4, 20);
        due.is("grows 20", x.later(1, 1), 40);
        due.is("later(-1, 0)", x.later(-1, 0), BAD);
        due.is("later(41, 0)", x.later(41, 0), BAD);
        due.is("later(1, 3)", x.later(1, 3), BAD);
        due.is("later(1, -2)", x.later(1, -2), BAD);
        due.is("feltLater(-1, 10)", x.feltLater(-1, 10), BAD);
        due.is("feltLater(41, 10)", x.feltLater(41, 10), BAD);
        due.is("feltLater(1, 11)", x.feltLater(1, 11), BAD);
        due.is("feltLater(1, 30)", x.feltLater(1, 30), BAD);
        due.is("feltLater(0, 20)", x.feltLater(0, 20), 104);
    }

    private static void theHungriestBuysFirst() {
        due.promise(13, "A DAY: who buys, by whom, how much; promise 14, FEELING then");
        ScalesByHate x = Bazaars.of(4);
        x.feel(20, -1);
        x.feel(21, -1);
        x.feel(30, 1);
        x.feel(31, 1);
        due.is("of like ones the lesser number", x.later(1, 0), 8);
        due.is("the other has no weigher left", x.later(1, 1), 26);
        x.mend(1, 0, 21);
        due.is("the hungrier first", x.later(1, 1), 9);
        due.is("the other goes hungry", x.later(1, 0), 26);
        Bazaars.law(x, "done*10+hunger%10");
        x.feel(30, -1);
        x.feel(10, 1);
        due.is("1 by 2, 0 by 3: done is 1", x.later(1, 0), 10);
        due.is("1 first", x.later(1, 1), 20);
        ScalesByHate y = Bazaars.of(5);
        y.feel(10, -2);
        y.feel(20, -5);
        y.feel(30, -5);
        y.feel(40, 7);
        due.is("without a text the least hate weighs most", y.feltLater(1, 10), 99);
        Bazaars.law(y, "hate");
        due.is("by this law the most hate, the lesser number", y.feltLater(1, 20), 96);
        due.is("not the greater number", y.feltLater(1, 30), 95);
        due.is("not the lesser hate", y.feltLater(1, 10), 98);
        Bazaars.law(y, "hate+99");
        due.is("held at 50 all are like: the least number", y.feltLater(1, 10), 99);
        Bazaars.law(y, "0-hate");
        due.is("held at 0 too", y.feltLater(1, 10), 99);
        due.is("0 weighed out is fed", y.later(1, -1), 1);
        Bazaars.law(y, "love");
        due.is("the friend's love", y.later(1, 0), 13);
        y.feel(30, 9);
        due.is("the one who loves most", y.later(1, 0), 11);
    }

    private static void feelingsFadeLater() {
        due.promise(14, "FADES");
        ScalesByHate x = Bazaars.of(4);
        x.feel(1, 5);
        x.feel(10, -5);
        x.mend(0, 3, 3);
        due.is("two days: nothing", x.feltLater(2, 1), 105);
        due.is("third day", x.feltLater(3, 1), 104);
        due.is("sixth day, hate", x.feltLater(6, 10), 97);
        due.is("0 stays 0", x.feltLater(6, 12), 100);
        due.is("not beyond 0", x.feltLater(40, 1), 100);
        x.mend(0, 5, 97);
        due.is("day 98", x.feltLater(1, 1), 105);
        due.is("day 99", x.feltLater(2, 1), 104);
        due.is("day 99 stays, and fades each day", x.feltLater(4, 10), 98);
        x.mend(0, 3, 7);
        due.is("98 by 7", x.feltLater(3, 1), 104);
        ScalesByHate y = Bazaars.ofOneBuyer();
        Bazaars.law(y, "day");
        y.mend(0, 5, 4);
        due.is("the law's day is as it was ahead", y.later(1, 0), 16);
        due.is("then one more", y.later(2, 0), 11);
    }

    private static void feedingLasts() {
        due.promise(15, "LASTS");
        ScalesByHate x = Bazaars.ofOneBuyer();
        due.is("hate 3 feeds 3 days", x.lasts(0), 3);
        due.is("1 is never fed", x.lasts(1), 0);
        x.mend(0, 2, 0);
        due.is("40 at most", x.lasts(0), 40);
        x.mend(0, 2, 2);
        due.is("softens 2", x.lasts(0), 2);
        due.is("lasts(3)", x.lasts(3), BAD);
        due.is("lasts(-1)", x.lasts(-1), BAD);
        ScalesByHate gap = Bazaars.of(4);
        gap.feel(20, -9);
        gap.feel(21, -9);
        gap.feel(30, 5);
        gap.feel(31, 5);
        gap.mend(0, 0, 50);
        due.is("a gap ends it", gap.lasts(0), 3);
        due.is("though he is fed later", gap.later(8, -1), 8);
    }

    private static void feelingsAreRenewed() {
        due.promise(16, "RENEWED");
        ScalesByHate x = Bazaars.ofOneBuyer();
        due.is("made -9", x.renewed(10, -9), 9);
        due.is("made 0", x.renewed(10, 0), 0);
        due.is("made -1", x.renewed(10, -1), 1);
        due.is("another hater", x.renewed(20, -2), 0);
        due.is("the friend still", x.renewed(20, 9), 3);
        due.is("another one's", x.renewed(12, -3), 0);
        due.is("as it was", x.feeling(10), 97);
        due.is("renewed(10, -10)", x.renewed(10, -10), BAD);
        due.is("renewed(10, 10)", x.renewed(10, 10), BAD);
        due.is("renewed(11, 1)", x.renewed(11, 1), BAD);
        due.is("renewed(30, 1)", x.renewed(30, 1), BAD);
        due.is("renewed(-1, 1)", x.renewed(-1, 1), BAD);
    }

    private static void hateIsWorth() {
        due.promise(17, "WORTH");
        ScalesByHate x = Bazaars.of(1);
        due.is("nobody else", x.worth(0, 5, 0), NOT);
        due.is("nobody else, hunger", x.worth(0, 5, 1), NOT);
        due.is("nobody else and bad", x.worth(0, 5, 2), BAD);
        x = Bazaars.of(4);
        x.feel(10, 9);
        due.is("0 days: the least number", x.worth(0, 0, 0), 1);
        due.is("0 days: hunger as it is", x.worth(0, 0, 1), 20);
        due.is("1 is the friend, so 2", x.worth(0, 1, 0), 2);
        due.is("8 + 5 - 9 = 4", x.worth(0, 1, 1), 16);
        x.feel(10, 0);
        x.feel(20, 1);
        due.is("1 weighs, 2 is by", x.worth(0, 1, 0), 1);
        x.feel(10, -9);
        x.feel(30, -1);
        due.is("as it is: 12 by 3", x.later(1, 0), 8);
        due.is("1's stays -9: the least number of 1 and 2", x.worth(0, 1, 0), 1);
        due.is("hunger 8", x.worth(0, 1, 1), 8);
        due.is("for 3 nobody stands by", x.worth(3, 1, 0), 0);
        due.is("hunger 26", x.worth(3, 1, 1), 26);
        due.is("worth(4, 1, 0)", x.worth(4, 1, 0), BAD);
        due.is("worth(-1, 1, 0)", x.worth(-1, 1, 0), BAD);
        due.is("worth(0, 41, 0)", x.worth(0, 41, 0), BAD);
        due.is("worth(0, -1, 0)", x.worth(0, -1, 0), BAD);
        due.is("worth(0, 1, -1)", x.worth(0, 1, -1), BAD);
        due.is("worth(0, 40, 1) within 0 .. 99", x.worth(0, 40, 1), 99);
    }

    private static void ringsAreFound() {
        due.promise(18, "RING");
        ScalesByHate x = Bazaars.of(8);
        due.is("no ring", x.ring(), NOT);
        for (int a = 0; a < 7; a++) {
            x.feel(10 * a + a + 1, -1);
        }
        due.is("a chain", x.ring(), NOT);
        x.feel(70, -1);
        due.is("all eight", x.ring(), 8);
        x.feel(52, -9);
        due.is("2 to 5", x.ring(), 4);
        x.feel(41, 9);
        due.is("love is none", x.ring(), 4);
        x.feel(75, -2);
        due.is("5, 6, 7", x.ring(), 3);
        x.feel(10, -1);
        due.is("0 and 1", x.ring(), 2);
    }

    private static void theLastOfEightEat() {
        due.promise(10, "people 6 and 7 as all others, in promises 6 to 27");
        ScalesByHate x = Bazaars.of(8);
        due.is("all eight lack a friend", x.lacks(0, 0), 255);
        x.feel(76, -4);
        x.feel(56, 2);
        due.is("feeling(76)", x.feeling(76), 96);
        due.is("feeling(56)", x.feeling(56), 102);
        due.is("only 6 has a friend", x.lacks(0, 0), 191);
        due.is("6 is paired", x.paired(6), 7);
        due.is("nobody else", x.paired(7), 8);
        due.is("feltLater(1, 76)", x.feltLater(1, 76), 97);
        due.is("lasts(6)", x.lasts(6), 4);
        due.is("renewed(76, -6)", x.renewed(76, -6), 6);
        due.is("renewed(75, -6)", x.renewed(75, -6), 0);
        due.is("worth(6, 1, 0): 4 + 5 by 7 as it is, 4 + 0 by others", x.worth(6, 1, 0), 0);
        due.is("byTurns(67, 1, 0): 8 + 5 - 4", x.byTurns(67, 1, 0), 11);
        due.is("byTurns(67, 2, 0): forgiving would feed him more", x.byTurns(67, 2, 0), 11);
        Bazaars.bytes(x, 5, 7, 7, 8);
        due.is("fits(5, 76, 0): -2", x.fits(5, 76, 0), 1);
        due.is("fits(5, 76, 1): -2", x.fits(5, 76, 1), 98);
        due.is("fits(5, 76, 2): by no hunger", x.fits(5, 76, 2), 0);
        x.feel(76, -2);
        due.is("fits(5, 76, 2): by each", x.fits(5, 76, 2), 100);
        due.is("drawn, 6 eats twice: 20 - 11 - 12", x.drawn(1, 10200, 6), 0);
        due.is("day()", x.day(), 1);
        due.holds("told", Bazaars.tale(x).equals("6<7|5:11;"));
    }

    private static void thoughtChangesNothing() {
        due.promise(13, "thought changes nothing, in promises 11 to 22");
        ScalesByHate x = Bazaars.ofOneBuyer();
        x.later(40, 0);
        x.feltLater(40, 10);
        x.lasts(0);
        x.renewed(10, 5);
        x.worth(0, 40, 0);
        x.byTurns(1, 5, 0);
        x.drawn(1, 202012, 0);
        x.harm(-1);
        due.is("hunger", x.of(0, 0), 20);
        due.is("day", x.of(0, 5), 0);
        due.is("feeling", x.feeling(10), 97);
        due.is("another feeling", x.feeling(20), 104);
        due.is("led", x.led(0), 0);
        due.is("tale", x.tale(-1), 0);
        due.is("changes", x.count(2), 2);
    }
}
