/** Promises 10 to 18, sentence by sentence: the last that is taken and the first that is not, on both sides. */
public final class TodayEdgesTest {
    private static final int BAD = -1, NOT = -2, NOBODY = 8;
    private static final Due due = new Due();

    public static void main(String[] args) {
        pairedByThoseWhoHate();
        pairedWithAFriendBeside();
        eachPairedWeigherIsHisOwn();
        asManyAsCanBe();
        theFirstByWeighers();
        pairedIsToldOfEach();
        harmHasPrices();
        harmIsLeast();
        harmFindsNoWay();
        harmsFriendsAreAsTheyWere();
        theFirstOfTheCheapest();
        whoLacks();
        howManyLoveAndHate();
        laterIsFrom0To40();
        feltLaterIsFrom0To40();
        feltLaterIsOfEachPair();
        fedWithoutAGap();
        fortyAtMost();
        renewedBecomesNow();
        renewedIsOfEachPair();
        worthIsTheLeastHunger();
        worthIsTheLeastNumber();
        worthWithoutOthers();
        ringsOfAllSizes();
        ringsOfHate();
        due.end(10, 18);
    }

    private static String weighers(ScalesByHate x, boolean isHarm) {
        StringBuilder told = new StringBuilder();
        for (int one = 0; one < x.count(0); one++) {
            told.append(isHarm ? x.harm(one) : x.paired(one));
        }
        return told.toString();
    }

    // ---- promise 10

    private static void pairedByThoseWhoHate() {
        due.promise(10, "a weigher who HATES them (below 0)");
        for (int felt = -9; felt <= 9; felt++) {
            ScalesByHate x = Bazaars.of(3);
            x.feel(10, felt);
            x.feel(20, 9);
            due.is("paired(-1) by " + felt, x.paired(-1), felt < 0 ? 1 : 0);
            due.is("paired(0) by " + felt, x.paired(0), felt < 0 ? 1 : NOBODY);
        }
        ScalesByHate x = Bazaars.of(3);
        x.feel(1, -9);
        x.feel(20, 9);
        due.is("whom one hates weighs not", x.paired(-1), 0);
    }

    private static void pairedWithAFriendBeside() {
        due.promise(10, "with a FRIEND beside (above 0)");
        for (int love = -9; love <= 9; love++) {
            ScalesByHate x = Bazaars.of(3);
            x.feel(10, -9);
            x.feel(20, love);
            due.is("paired(-1) by a love of " + love, x.paired(-1), love > 0 ? 1 : 0);
        }
        ScalesByHate x = Bazaars.of(2);
        x.feel(10, -1);
        x.feel(1, 9);
        due.is("whom one loves is no friend beside", x.paired(0), NOBODY);
        ScalesByHate all = Bazaars.of(4);
        for (int b = 0; b < 3; b++) {
            all.feel(30 + b, 1);
            all.feel(10 * ((b + 1) % 3) + b, -1);
        }
        due.is("one friend beside three", all.paired(-1), 3);
        due.same("weighers", weighers(all, false), "1208");
    }

    private static void eachPairedWeigherIsHisOwn() {
        due.promise(10, "each a weigher of their own");
        ScalesByHate x = Bazaars.of(8);
        for (int b = 0; b < 6; b++) {
            x.feel(60 + b, -9);
            x.feel(70 + b, 9);
        }
        due.is("six and one weigher", x.paired(-1), 1);
        due.same("the first has him", weighers(x, false), "68888888");
        x.feel(65, 0);
        x.feel(75, -1);
        x.feel(65, 1);
        due.is("and one of his own", x.paired(-1), 2);
        due.same("weighers", weighers(x, false), "68888788");
    }

    private static void asManyAsCanBe() {
        due.promise(10, "as many as can be");
        ScalesByHate x = Bazaars.of(8);
        for (int b = 0; b < 4; b++) {
            x.feel(10 * (b + 4) + b, 1);
        }
        x.feel(50, -1);
        x.feel(60, -1);
        x.feel(61, -1);
        x.feel(71, -1);
        x.feel(72, -1);
        x.feel(42, -1);
        x.feel(43, -1);
        due.is("a chain", x.paired(-1), 4);
        due.same("its first way", weighers(x, false), "56748888");
        x.feel(50, 0);
        due.is("the chain moves on", x.paired(-1), 3);
        due.same("0 by 6, 1 by 7, 2 by 4", weighers(x, false), "67488888");
        for (int people = 3; people <= 8; people++) {
            ScalesByHate ring = Bazaars.of(people);
            for (int b = 0; b < people; b++) {
                ring.feel(10 * ((b + 1) % people) + b, -1);
                ring.feel(10 * ((b + 2) % people) + b, 1);
            }
            due.is("all of " + people, ring.paired(-1), people);
        }
    }

    private static void theFirstByWeighers() {
        due.promise(10, "of all such ways the first by weighers of PEOPLE 0, 1, ..: nobody is above all numbers");
        ScalesByHate x = Bazaars.of(8);
        for (int b = 0; b < 3; b++) {
            for (int a = 4; a <= 6; a++) {
                x.feel(10 * a + b, -1);
            }
            x.feel(70 + b, 1);
        }
        due.same("4, 5, 6", weighers(x, false), "45688888");
        x.feel(40, 0);
        due.same("5, 4, 6", weighers(x, false), "54688888");
        x.feel(60, 0);
        x.feel(52, 0);
        due.same("5, 4, 6: 5 is left to 0", weighers(x, false), "54688888");
        x.feel(50, 0);
        due.same("nobody, 4, 6", weighers(x, false), "84688888");
        ScalesByHate y = Bazaars.of(8);
        y.feel(70, -1);
        y.feel(71, -1);
        y.feel(60, 1);
        y.feel(61, 1);
        due.same("0 by the last rather than by nobody", weighers(y, false), "78888888");
        due.is("one", y.paired(-1), 1);
        ScalesByHate z = Bazaars.of(8);
        for (int b = 1; b < 8; b++) {
            z.feel(10 * (b - 1) + b, -1);
            z.feel(10 * (b % 7 + 1) + b, 1);
        }
        due.same("nobody for 0, and 0 for 1", weighers(z, false), "80123456");
    }

    private static void pairedIsToldOfEach() {
        due.promise(10, "how many (one -1), who weighs for one (8)");
        ScalesByHate none = new ScalesByHate();
        due.is("nobody there", none.paired(-1), 0);
        due.is("paired(0)", none.paired(0), BAD);
        ScalesByHate x = Bazaars.of(8);
        due.is("none", x.paired(-1), 0);
        for (int one = 0; one < 8; one++) {
            due.is("paired(" + one + ")", x.paired(one), NOBODY);
        }
        due.is("paired(8)", x.paired(8), BAD);
        due.is("paired(-2)", x.paired(-2), BAD);
    }

    // ---- promise 11

    private static void harmHasPrices() {
        due.promise(11, "made -1, where they are 0 or more, at a price of 1, and as much as they are above 0");
        for (int felt = -9; felt <= 9; felt++) {
            ScalesByHate x = Bazaars.of(3);
            x.feel(10, felt);
            x.feel(20, 5);
            x.feel(21, -1);
            x.feel(1, 5);
            x.feel(2, -1);
            x.feel(12, 5);
            int price = felt < 0 ? 0 : 1 + felt;
            due.is("harm(-1) by " + felt, x.harm(-1), price);
            due.is("harm(0) by " + felt, x.harm(0), 1);
        }
        due.promise(11, "least price in all");
        due.is("eight who love by 9", Bazaars.feeling(8, 9).harm(-1), 80);
        due.is("eight who love by 1", Bazaars.feeling(8, 1).harm(-1), 16);
        due.is("three who love by 9", Bazaars.feeling(3, 9).harm(-1), 30);
        ScalesByHate x = Bazaars.feeling(8, 1);
        for (int b = 0; b < 8; b++) {
            x.feel(10 * ((b + 5) % 8) + b, b % 2 == 0 ? 0 : -3);
        }
        due.is("four at 1 each", x.harm(-1), 4);
        due.same("weighers", weighers(x, true), "56701234");
    }

    private static void harmIsLeast() {
        due.promise(11, "the least of dear ways");
        ScalesByHate x = Bazaars.feeling(4, 3);
        x.feel(10, 0);
        x.feel(12, 0);
        due.is("1 weighs at 1 for one of them", x.harm(-1), 1 + 4 + 4 + 4);
        due.same("weighers", weighers(x, true), "1032");
        x.feel(20, 1);
        due.is("now 1 for 2 and 2 for 0", x.harm(-1), 1 + 2 + 4 + 4);
        due.same("weighers", weighers(x, true), "2310");
        x.feel(32, -9);
        due.is("3 for 2 for nothing, 1 for 0", x.harm(-1), 0 + 1 + 4 + 4);
        due.same("weighers", weighers(x, true), "1032");
    }

    private static void harmFindsNoWay() {
        due.promise(11, "NOT: there is no way");
        due.is("one alone", Bazaars.of(1).harm(-1), NOT);
        due.is("two", Bazaars.feeling(2, 9).harm(-1), NOT);
        due.is("three without love", Bazaars.of(3).harm(-1), NOT);
        ScalesByHate x = Bazaars.feeling(8, 0);
        for (int b = 0; b < 8; b++) {
            due.is("not all have a friend", x.harm(-1), NOT);
            due.is("of each", x.harm(b), NOT);
            x.feel(10 * ((b + 1) % 8) + b, 1);
        }
        due.is("all have", x.harm(-1), 8);
        due.is("nobody there: nobody is to be weighed for", new ScalesByHate().harm(-1), 0);
        ScalesByHate y = Bazaars.feeling(8, -1);
        for (int b = 1; b < 8; b++) {
            y.feel(b, 9);
        }
        y.feel(10, 1);
        due.is("0 is needed as a weigher, and is the only friend of all others", y.harm(-1), NOT);
        y.feel(17, 5);
        due.is("another one loves 7: 0 weighs for him", y.harm(-1), 10);
        due.is("harm(7)", y.harm(7), 0);
    }

    private static void harmsFriendsAreAsTheyWere() {
        due.promise(11, "a FRIEND beside is not that weigher (by FEELINGS as they were)");
        ScalesByHate x = Bazaars.feeling(3, 0);
        x.feel(10, 1);
        x.feel(21, 1);
        x.feel(2, 1);
        due.is("each other one weighs", x.harm(-1), 3);
        due.same("weighers", weighers(x, true), "201");
        x.feel(20, 9);
        due.is("2 weighs for 0 at 10, for 1 he is the only friend", x.harm(-1), 10 + 1 + 1);
        x.feel(10, 0);
        due.is("2 is the only friend of 0 as well", x.harm(-1), NOT);
        ScalesByHate y = Bazaars.feeling(3, 1);
        due.is("who weighs for one stands by another one", y.harm(-1), 6);
    }

    private static void theFirstOfTheCheapest() {
        due.promise(11, "of the cheapest ways the first by weighers");
        due.same("eight who love", weighers(Bazaars.feeling(8, 1), true), "10325476");
        due.same("five who love", weighers(Bazaars.feeling(5, 1), true), "10342");
        due.same("three who love", weighers(Bazaars.feeling(3, 1), true), "120");
        ScalesByHate x = Bazaars.feeling(4, 2);
        x.feel(10, 3);
        due.same("1 for 0 is dearer", weighers(x, true), "2031");
        x.feel(20, 3);
        due.same("2 for 0 too", weighers(x, true), "3012");
        x.feel(30, 3);
        due.same("all are", weighers(x, true), "1032");
    }

    // ---- promise 12

    private static void whoLacks() {
        due.promise(12, "LACKS: PEOPLE whom nobody LOVES (bits)");
        due.is("nobody there", new ScalesByHate().lacks(0, 0), 0);
        for (int people = 1; people <= 8; people++) {
            due.is("all of " + people, Bazaars.of(people).lacks(0, 0), (1 << people) - 1);
            due.is("none of " + people, Bazaars.feeling(people, 1).lacks(0, 0), people == 1 ? 1 : 0);
            due.is("hate is no love", Bazaars.feeling(people, -1).lacks(0, 0), (1 << people) - 1);
        }
        for (int one = 0; one < 8; one++) {
            ScalesByHate x = Bazaars.feeling(8, 0);
            x.feel(10 * ((one + 1) % 8) + one, 1);
            due.is("all but " + one, x.lacks(0, 0), 255 - (1 << one));
            ScalesByHate y = Bazaars.feeling(8, 9);
            for (int a = 0; a < 8; a++) {
                y.feel(10 * a + one, a % 2 == 0 ? 0 : -1);
            }
            due.is("only " + one, y.lacks(0, 0), 1 << one);
        }
        due.promise(12, "one 0 for LACKS, else BAD");
        due.is("lacks(1, 0)", Bazaars.feeling(3, 1).lacks(1, 0), BAD);
        due.is("lacks(-1, 0)", Bazaars.feeling(3, 1).lacks(-1, 0), BAD);
        due.is("lacks(0, 0), though nobody is there", new ScalesByHate().lacks(0, 0), 0);
    }

    private static void howManyLoveAndHate() {
        for (int one = 0; one < 8; one++) {
            for (int felt : new int[]{-9, -1, 0, 1, 9}) {
                for (int many = 0; many <= 7; many += 7) {
                    ScalesByHate x = Bazaars.of(8);
                    for (int i = 1; i <= many; i++) {
                        x.feel(10 * ((one + i) % 8) + one, felt);
                        x.feel(10 * one + (one + i) % 8, -felt);
                    }
                    due.promise(12, "how many LOVE one");
                    due.is("lacks(" + one + ", 1) by " + felt, x.lacks(one, 1), felt > 0 ? many : 0);
                    due.promise(12, "how many HATE him");
                    due.is("lacks(" + one + ", 2) by " + felt, x.lacks(one, 2), felt < 0 ? many : 0);
                }
            }
            for (int who = 0; who < 8; who++) {
                if (who != one) {
                    ScalesByHate x = Bazaars.of(8);
                    x.feel(10 * who + one, 1);
                    due.promise(12, "how many LOVE one");
                    due.is("by " + who + " alone", x.lacks(one, 1), 1);
                    x.feel(10 * who + one, -1);
                    due.promise(12, "how many HATE him");
                    due.is("by " + who + " alone", x.lacks(one, 2), 1);
                }
            }
        }
        due.promise(12, "of one that is there, what 0 .. 2");
        ScalesByHate x = Bazaars.of(3);
        due.is("lacks(2, 1)", x.lacks(2, 1), 0);
        due.is("lacks(3, 1)", x.lacks(3, 1), BAD);
        due.is("lacks(3, 2)", x.lacks(3, 2), BAD);
        due.is("lacks(-1, 2)", x.lacks(-1, 2), BAD);
        due.is("lacks(0, -1)", x.lacks(0, -1), BAD);
        due.is("lacks(0, 3)", x.lacks(0, 3), BAD);
    }

    // ---- promises 13, 14

    private static void laterIsFrom0To40() {
        ScalesByHate x = Bazaars.of(2);
        x.mend(0, 4, 2);
        due.promise(13, "n is 0 .. 40");
        due.is("later(-1, 0)", x.later(-1, 0), BAD);
        due.is("later(0, 0)", x.later(0, 0), 20);
        due.is("later(1, 0)", x.later(1, 0), 22);
        due.is("later(39, 0)", x.later(39, 0), 98);
        due.is("later(40, 0)", x.later(40, 0), 99);
        due.is("later(41, 0)", x.later(41, 0), BAD);
        due.promise(13, "HUNGER of one; how many were FED (one -1)");
        due.is("later(0, -1)", x.later(0, -1), 0);
        due.is("later(40, 1)", x.later(40, 1), 99);
        due.is("later(40, 2)", x.later(40, 2), BAD);
        due.is("later(40, -2)", x.later(40, -2), BAD);
        due.is("later(40, -1)", x.later(40, -1), 0);
        due.is("nobody there", new ScalesByHate().later(40, -1), 0);
        due.is("nobody there, of one", new ScalesByHate().later(0, 0), BAD);
        due.promise(13, "all DAYS together");
        ScalesByHate y = Bazaars.ofOneBuyer();
        y.mend(0, 2, 0);
        due.is("later(40, -1)", y.later(40, -1), 40);
        due.is("later(39, -1)", y.later(39, -1), 39);
        due.is("later(1, -1)", y.later(1, -1), 1);
        due.promise(13, "from now: DAY goes on");
        Bazaars.law(y, "day");
        y.mend(0, 5, 9);
        due.is("later(1, 0)", y.later(1, 0), 11);
        due.is("later(2, 0)", y.later(2, 0), 1);
        due.is("again", y.later(1, 0), 11);
    }

    private static void feltLaterIsFrom0To40() {
        ScalesByHate x = Bazaars.of(2);
        x.feel(1, -9);
        x.feel(10, 9);
        x.mend(0, 3, 5);
        due.promise(14, "n is 0 .. 40");
        due.is("feltLater(-1, 1)", x.feltLater(-1, 1), BAD);
        due.is("feltLater(0, 1)", x.feltLater(0, 1), 91);
        due.is("feltLater(4, 1)", x.feltLater(4, 1), 91);
        due.is("feltLater(5, 1)", x.feltLater(5, 1), 92);
        due.is("feltLater(39, 1)", x.feltLater(39, 1), 98);
        due.is("feltLater(40, 1)", x.feltLater(40, 1), 99);
        due.is("feltLater(41, 1)", x.feltLater(41, 1), BAD);
        due.promise(14, "FEELING (ab), and 100");
        due.is("feltLater(40, 10)", x.feltLater(40, 10), 101);
        for (int ab : new int[]{-1, 0, 11, 2, 20, 12, 21, 100}) {
            due.is("feltLater(1, " + ab + ")", x.feltLater(1, ab), BAD);
        }
    }

    private static void feltLaterIsOfEachPair() {
        due.promise(14, "of each pair");
        ScalesByHate x = Bazaars.ofManyFeelings();
        x.mend(0, 3, 1);
        for (int ab = 0; ab < 80; ab++) {
            int felt = ab * 7 % 19 - 9;
            int faded = felt > 0 ? felt - 1 : felt < 0 ? felt + 1 : 0;
            boolean isPair = Bazaars.isPairOfEight(ab);
            due.is("feltLater(0, " + ab + ")", x.feltLater(0, ab), isPair ? 100 + felt : BAD);
            if (isPair && felt >= 0) {
                due.is("feltLater(1, " + ab + ")", x.feltLater(1, ab), 100 + faded);
            }
        }
    }

    // ---- promises 15, 16

    /** 0 is weighed for by others, one behind the other, for as many days as their hates are in all. */
    private static ScalesByHate fedFor(int days) {
        ScalesByHate x = Bazaars.of(8);
        int rest = days;
        for (int who = 1; who <= 6; who++) {
            x.feel(10 * who, -Math.min(rest, 9));
            rest -= Math.min(rest, 9);
        }
        x.feel(70, 1);
        return x;
    }

    private static void fedWithoutAGap() {
        due.promise(15, "how many DAYS from now on one is FED without a gap");
        for (int days = 0; days <= 9; days++) {
            due.is("a hate of " + days, fedFor(days).lasts(0), days);
        }
        due.is("who is not fed", fedFor(9).lasts(1), 0);
        ScalesByHate x = Bazaars.of(8);
        for (int b = 6; b < 8; b++) {
            x.feel(50 + b, -3);
            x.feel(40 + b, 3);
        }
        x.mend(7, 0, 60);
        due.is("7 by 5 until 6 is hungrier", x.lasts(7), 5 - 1 - 1);
        due.is("6, not fed on the first day", x.lasts(6), 0);
        due.is("though on later ones", x.later(40, -1), 6);
        due.promise(15, "of one that is there");
        due.is("lasts(8)", x.lasts(8), BAD);
        due.is("lasts(-1)", x.lasts(-1), BAD);
        due.is("nobody there", new ScalesByHate().lasts(0), BAD);
    }

    private static void fortyAtMost() {
        due.promise(15, "40 at most");
        for (int days = 36; days <= 44; days++) {
            due.is("hates of " + days, fedFor(days).lasts(0), Math.min(days, 40));
        }
        ScalesByHate x = Bazaars.ofOneBuyer();
        x.mend(0, 2, 0);
        due.is("for ever", x.lasts(0), 40);
        due.promise(16, "40 at most");
        for (int days = 27; days <= 31; days++) {
            ScalesByHate y = fedFor(days);
            due.is("hates of " + days + " and 9", y.renewed(60, -9), Math.min(days + 9, 40));
        }
    }

    private static void renewedBecomesNow() {
        due.promise(16, "if another one's FEELING for him becomes v (-9 .. 9) now: LASTS then");
        ScalesByHate x = Bazaars.ofOneBuyer();
        for (int v = -9; v <= 9; v++) {
            due.is("renewed(10, " + v + ")", x.renewed(10, v), v < 0 ? -v : 0);
        }
        due.is("renewed(10, -10)", x.renewed(10, -10), BAD);
        due.is("renewed(10, 10)", x.renewed(10, 10), BAD);
        due.is("the friend's: 1", x.renewed(20, 1), 3);
        due.is("the friend's: 0", x.renewed(20, 0), 0);
        due.is("it was thought only", x.feeling(10), 97);
        due.is("lasts(0)", x.lasts(0), 3);
        due.promise(16, "ab: whose FEELING, and for whom");
        ScalesByHate y = Bazaars.of(3);
        y.feel(21, 5);
        due.is("0's feeling for 1: 1 is fed", y.renewed(1, -4), 4);
        due.is("1's feeling for 0: 0 has no friend", y.renewed(10, -4), 0);
        due.is("for one who feels", y.renewed(12, -4), 0);
        for (int ab : new int[]{-1, 0, 11, 3, 30, 13, 31, 100, 101}) {
            due.is("renewed(" + ab + ", 1)", y.renewed(ab, 1), BAD);
        }
        due.promise(16, "a FRIEND may be made, too");
        y.feel(20, -2);
        due.is("renewed(10, 1)", y.renewed(10, 1), 2);
        due.is("renewed(10, 0)", y.renewed(10, 0), 0);
    }

    private static void renewedIsOfEachPair() {
        due.promise(16, "of each pair");
        ScalesByHate x = Bazaars.feeling(8, 1);
        for (int ab = 0; ab < 100; ab++) {
            boolean isPair = Bazaars.isPairOfEight(ab);
            due.is("renewed(" + ab + ", -4)", x.renewed(ab, -4), isPair ? 4 : BAD);
            due.is("renewed(" + ab + ", 0)", x.renewed(ab, 0), isPair ? 0 : BAD);
        }
        x.feel(76, -5);
        x.feel(67, -2);
        due.is("renewed(67, -9): 7 is fed", x.renewed(67, -9), 9);
        due.is("renewed(57, 9): 7 is fed", x.renewed(57, 9), 2);
        due.is("renewed(56, 9): 6 is fed", x.renewed(56, 9), 5);
    }

    // ---- promise 17

    private static void worthIsTheLeastHunger() {
        due.promise(17, "by whose FEELING for him, made -9 now, one's HUNGER behind n DAYS would be least; that");
        ScalesByHate x = Bazaars.of(4);
        x.feel(10, 9);
        x.feel(20, 0);
        x.feel(30, -9);
        Bazaars.law(x, "love");
        due.is("2's: 1 stands by as well", x.worth(0, 1, 0), 2);
        due.is("hunger", x.worth(0, 1, 1), 11);
        x.feel(20, 5);
        due.is("1's would leave 2 by", x.worth(0, 1, 1), 11);
        due.is("2's", x.worth(0, 1, 0), 2);
        x.mend(0, 0, 40);
        Bazaars.law(x, "hate-love+20");
        due.is("by another law 1's: 2 stands by", x.worth(0, 1, 0), 1);
        due.is("hunger", x.worth(0, 1, 1), 40 - (9 - 5 + 20));
        due.promise(17, "made -9");
        ScalesByHate y = Bazaars.of(3);
        y.feel(20, 1);
        Bazaars.law(y, "hate");
        due.is("9 are weighed out", y.worth(0, 1, 1), 11);
        due.is("17 in two days", y.worth(0, 2, 1), 3);
        due.promise(17, "n is 0 .. 40");
        due.is("worth(0, -1, 1)", y.worth(0, -1, 1), BAD);
        due.is("worth(0, 0, 1)", y.worth(0, 0, 1), 20);
        due.is("worth(0, 9, 1)", y.worth(0, 9, 1), 0);
        due.is("worth(0, 39, 1)", y.worth(0, 39, 1), 99);
        due.is("worth(0, 25, 1): behind nine days 16 of 6", y.worth(0, 25, 1), 96);
        due.is("worth(0, 40, 1)", y.worth(0, 40, 1), 99);
        due.is("worth(0, 41, 1)", y.worth(0, 41, 1), BAD);
        due.promise(17, "what is 0, 1");
        due.is("worth(0, 1, -1)", y.worth(0, 1, -1), BAD);
        due.is("worth(0, 1, 2)", y.worth(0, 1, 2), BAD);
        due.is("worth(3, 1, 0)", y.worth(3, 1, 0), BAD);
        due.is("feelings stay", y.feeling(10), 100);
    }

    private static void worthIsTheLeastNumber() {
        due.promise(17, "of like ones the least number");
        for (int one = 0; one < 8; one++) {
            ScalesByHate x = Bazaars.of(8);
            due.is("worth(" + one + ", 0, 0)", x.worth(one, 0, 0), one == 0 ? 1 : 0);
            due.is("worth(" + one + ", 5, 0): nobody loves", x.worth(one, 5, 0), one == 0 ? 1 : 0);
            due.is("worth(" + one + ", 5, 1)", x.worth(one, 5, 1), 50);
            int friend = (one + 1) % 8;
            x.feel(10 * friend + one, 1);
            int least = one == 0 ? 2 : one == 7 ? 1 : 0;
            due.is("the friend's is worth nothing", x.worth(one, 5, 0), least);
        }
        ScalesByHate x = Bazaars.of(8);
        x.mend(0, 0, 99);
        x.mend(0, 2, 3);
        x.feel(10, 1);
        for (int who = 2; who <= 6; who++) {
            x.feel(10 * who, -9);
        }
        Bazaars.law(x, "hate");
        due.is("the last is worth most: who weighs not yet", x.worth(0, 6, 0), 7);
        due.is("six times 9", x.worth(0, 6, 1), 45);
    }

    private static void worthWithoutOthers() {
        due.promise(17, "NOT: nobody else is there");
        ScalesByHate x = Bazaars.of(1);
        due.is("worth(0, 3, 0)", x.worth(0, 3, 0), NOT);
        due.is("worth(0, 3, 1)", x.worth(0, 3, 1), NOT);
        x.person(1, 1);
        due.is("one else: worth(0, 3, 0)", x.worth(0, 3, 0), 1);
        due.is("one else: worth(0, 3, 1)", x.worth(0, 3, 1), 38);
        due.is("one else: worth(1, 3, 0)", x.worth(1, 3, 0), 0);
        due.is("nobody there", new ScalesByHate().worth(0, 3, 0), BAD);
    }

    // ---- promise 18

    private static void ringsOfAllSizes() {
        due.promise(18, "how many PEOPLE the smallest ring has in which each HATES the next; NOT");
        due.is("nobody there", new ScalesByHate().ring(), NOT);
        due.is("one alone", Bazaars.of(1).ring(), NOT);
        for (int size = 2; size <= 8; size++) {
            for (int first = 0; first + size <= 8; first++) {
                ScalesByHate x = Bazaars.of(8);
                for (int i = 0; i < size - 1; i++) {
                    x.feel(10 * (first + i) + first + i + 1, -1);
                }
                due.is("a chain of " + size, x.ring(), NOT);
                x.feel(10 * (first + size - 1) + first, -1);
                due.is("a ring of " + size + " from " + first, x.ring(), size);
            }
        }
        ScalesByHate two = Bazaars.of(8);
        int[][] rings = {{1, 2, 3, 4, 0}, {5, 6, 7}};
        for (int[] ring : rings) {
            for (int i = 0; i < ring.length; i++) {
                two.feel(10 * ring[i] + ring[(i + 1) % ring.length], -2);
            }
        }
        due.is("a ring of 5 and one of 3", two.ring(), 3);
        two.feel(75, 0);
        due.is("of 5 alone", two.ring(), 5);
        two.feel(20, -1);
        due.is("a chord: 0, 1, 2", two.ring(), 3);
        due.is("all hate all", Bazaars.feeling(8, -9).ring(), 2);
    }

    private static void ringsOfHate() {
        due.promise(18, "HATES (below 0)");
        for (int felt = -9; felt <= 9; felt++) {
            ScalesByHate x = Bazaars.of(3);
            x.feel(12, -5);
            x.feel(21, felt);
            due.is("by " + felt, x.ring(), felt < 0 ? 2 : NOT);
        }
        due.is("rings of love are none", Bazaars.feeling(8, 9).ring(), NOT);
    }
}
