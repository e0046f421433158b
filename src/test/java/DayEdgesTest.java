/** Promise 23 and A DAY that promises 13 to 17 go by, sentence by sentence. */
public final class DayEdgesTest {
    private static final Due due = new Due();

    public static void main(String[] args) {
        theHungriestBuysFirst();
        theFriendLovesMost();
        theWeigherHates();
        aWeigherWeighsOnceADay();
        withoutAFriendNobodyWeighs();
        mostIsWeighedOut();
        hungerIsLess();
        theWeigherSoftens();
        hungerGrows();
        theDayIsOneMore();
        feelingsFade();
        fadingIsByTheDayAsItIs();
        howManyWereFed();
        daysInThoughtAreDaysInDeed();
        due.end(23, 23);
    }

    private static String taleOfADay(ScalesByHate x) {
        x.day();
        return Bazaars.tale(x);
    }

    /** Each is hated by the next but three and loved by the next but one: all eat, by other weighers each. */
    private static ScalesByHate fed(int people) {
        ScalesByHate x = Bazaars.of(people);
        for (int b = 0; b < people; b++) {
            x.feel(10 * ((b + 3) % people) + b, -9);
            x.feel(10 * ((b + 1) % people) + b, 1);
        }
        Bazaars.law(x, "1");
        return x;
    }

    private static void theHungriestBuysFirst() {
        due.promise(23, "PEOPLE buy by their HUNGER, the hungriest first (of like ones the lesser number)");
        due.same("all like", taleOfADay(fed(5)), "0<3|1:1;1<4|2:1;2<0|3:1;3<1|4:1;4<2|0:1;");
        ScalesByHate x = fed(5);
        int[] hungers = {0, 99, 50, 99, 51};
        for (int one = 0; one < 5; one++) {
            x.mend(one, 0, hungers[one]);
        }
        due.same("unlike and like", taleOfADay(x), "1<4|2:1;3<1|4:1;4<2|0:1;2<0|3:1;0<3|1:1;");
        ScalesByHate y = fed(8);
        for (int one = 0; one < 8; one++) {
            y.mend(one, 0, 30 + one);
        }
        due.same("the last first", taleOfADay(y), "7<2|0:1;6<1|7:1;5<0|6:1;4<7|5:1;3<6|4:1;2<5|3:1;1<4|2:1;0<3|1:1;");
        ScalesByHate turn = Bazaars.of(4);
        turn.mend(1, 0, 21);
        turn.feel(20, -1);
        turn.feel(21, -1);
        turn.feel(30, 1);
        turn.feel(31, 1);
        due.same("21 ahead of 20", taleOfADay(turn), "1<2|3:12;");
        due.same("then 26 ahead of 9", taleOfADay(fedAgain(turn)), "0<2|3:12;");
    }

    private static ScalesByHate fedAgain(ScalesByHate x) {
        x.feel(20, -1);
        x.feel(21, -1);
        return x;
    }

    private static void theFriendLovesMost() {
        due.promise(23, "the FRIEND by is who LOVES him most, of like ones the least");
        int[][] loves = {{1, 0, 0, 2}, {0, 1, 0, 3}, {0, 0, 1, 4}, {1, 1, 1, 2}, {1, 2, 1, 3}, {1, 1, 2, 4}, {9, 9, 8, 2}, {8, 9, 9, 3},
            {-9, 9, 9, 3}, {5, 4, 5, 2}};
        for (int[] row : loves) {
            ScalesByHate x = Bazaars.of(5);
            x.feel(10, -3);
            for (int who = 2; who <= 4; who++) {
                x.feel(10 * who, row[who - 2]);
            }
            due.same("loves " + row[0] + ", " + row[1] + ", " + row[2], taleOfADay(x).substring(0, 5), "0<1|" + row[3]);
        }
        due.promise(23, "a FRIEND may stand by for many, and weigh for others");
        ScalesByHate x = Bazaars.of(4);
        x.feel(30, 1);
        x.feel(31, 1);
        x.feel(20, -1);
        x.feel(32, -1);
        x.feel(2, 1);
        x.feel(1, -1);
        due.same("3 is by twice and weighs once", taleOfADay(x), "0<2|3:12;1<0|3:12;2<3|0:12;");
        due.promise(23, "the FRIEND is of all PEOPLE, the first and the last");
        ScalesByHate eight = Bazaars.of(8);
        eight.feel(17, -1);
        eight.feel(7, 1);
        due.same("0 by 7's side", taleOfADay(eight), "7<1|0:12;");
        eight = Bazaars.of(8);
        eight.feel(10, -1);
        eight.feel(70, 1);
        due.same("7 by 0's side", taleOfADay(eight), "0<1|7:12;");
    }

    private static void theWeigherHates() {
        due.promise(23, "the weigher is of those who HATE him (below 0)");
        for (int felt = -9; felt <= 9; felt++) {
            ScalesByHate x = Bazaars.of(3);
            x.feel(10, felt);
            x.feel(20, 9);
            due.is("a day by a feeling of " + felt, x.day(), felt < 0 ? 1 : 0);
            due.is("tale(-1)", x.tale(-1), felt < 0 ? felt < -3 ? 8 : 9 : 0);
        }
        ScalesByHate x = Bazaars.of(8);
        x.feel(70, -1);
        x.feel(10, 1);
        due.same("the last weighs for the first", taleOfADay(x), "0<7|1:12;");
        x = Bazaars.of(8);
        x.feel(7, -1);
        x.feel(67, 1);
        due.same("the first weighs for the last", taleOfADay(x), "7<0|6:12;");
        x = Bazaars.of(3);
        x.feel(1, -9);
        x.feel(20, 9);
        due.is("whom he hates weighs not for him", x.day(), 0);
    }

    private static void aWeigherWeighsOnceADay() {
        due.promise(23, "and have weighed nobody that DAY");
        ScalesByHate x = Bazaars.of(5);
        for (int b = 0; b < 3; b++) {
            x.feel(30 + b, -9);
            x.feel(40 + b, 9);
        }
        due.same("the first only", taleOfADay(x), "0<3|4:4;");
        due.is("1 goes hungry", x.of(1, 0), 26);
        due.is("2 goes hungry", x.of(2, 0), 26);
        due.same("the next day the next", taleOfADay(x), "1<3|4:4;");
        due.same("and the next", taleOfADay(x), "2<3|4:4;");
        ScalesByHate y = Bazaars.of(5);
        y.feel(20, -1);
        y.feel(30, -2);
        y.feel(21, -1);
        y.feel(31, -9);
        y.feel(40, 1);
        y.feel(41, 1);
        due.same("another one, by whom less is weighed out", taleOfADay(y), "0<2|4:12;1<3|4:4;");
    }

    private static void withoutAFriendNobodyWeighs() {
        due.promise(23, "and beside whom he has a FRIEND (who LOVES him: above 0)");
        for (int love = -1; love <= 1; love++) {
            ScalesByHate x = Bazaars.of(3);
            x.feel(10, -1);
            x.feel(20, love);
            due.is("a love of " + love, x.day(), love > 0 ? 1 : 0);
        }
        ScalesByHate x = Bazaars.of(4);
        x.feel(20, -5);
        x.feel(21, -5);
        x.feel(31, 5);
        due.same("who can't buy leaves the weigher to the next", taleOfADay(x), "1<2|3:8;");
        ScalesByHate two = Bazaars.of(2);
        two.feel(10, -5);
        two.feel(1, 5);
        due.is("whom he loves is no friend by", two.day(), 0);
    }

    private static void mostIsWeighedOut() {
        due.promise(23, "by whom most is weighed out (of like ones the least)");
        String[] laws = {"hate", "10-hate", "hate=4?7;3", "1", "hate%3", "99+hate", "0-hate"};
        String[] tales = {"0<2|4:7;", "0<1|4:8;", "0<3|4:7;", "0<1|4:1;", "0<1|4:2;", "0<1|4:50;", "0<1|4:0;"};
        for (int i = 0; i < laws.length; i++) {
            ScalesByHate x = Bazaars.of(5);
            x.feel(10, -2);
            x.feel(20, -7);
            x.feel(30, -4);
            x.feel(40, 1);
            Bazaars.law(x, laws[i]);
            due.same("by '" + laws[i] + "'", taleOfADay(x), tales[i]);
        }
    }

    private static void hungerIsLess() {
        due.promise(23, "FED: his HUNGER is less by it (not below 0)");
        int[][] hungers = {{99, 89}, {11, 1}, {10, 0}, {9, 0}, {1, 0}, {0, 0}};
        for (int[] row : hungers) {
            ScalesByHate x = Bazaars.ofOneBuyer();
            x.mend(0, 0, row[0]);
            due.is("day()", x.day(), 1);
            due.is("10 off " + row[0], x.of(0, 0), row[1]);
            due.same("it is told whole", Bazaars.tale(x), "0<1|2:10;");
        }
        ScalesByHate x = Bazaars.ofOneBuyer();
        Bazaars.law(x, "0");
        due.is("by 0 he is FED", x.day(), 1);
        due.is("and his hunger stays", x.of(0, 0), 20);
    }

    private static void theWeigherSoftens() {
        due.promise(23, "the weigher's FEELING for him is SOFTENS more");
        for (int softens = 0; softens <= 3; softens++) {
            for (int felt = -9; felt <= -1; felt++) {
                ScalesByHate x = Bazaars.ofOneBuyer();
                x.mend(0, 2, softens);
                x.feel(10, felt);
                x.feel(12, -4);
                x.feel(1, -4);
                x.day();
                due.is("feeling(10) of " + felt + " by " + softens, x.feeling(10), 100 + felt + softens);
                due.is("the weigher's for another", x.feeling(12), 96);
                due.is("his for the weigher", x.feeling(1), 96);
                due.is("the friend's", x.feeling(20), 104);
            }
        }
    }

    private static void hungerGrows() {
        due.promise(23, "HUNGER of those not FED is GROWS more (99 at most)");
        int[][] rows = {{20, 0, 20}, {20, 1, 21}, {20, 6, 26}, {20, 20, 40}, {79, 20, 99}, {80, 20, 99}, {92, 6, 98}, {93, 6, 99}, {94, 6, 99},
            {99, 6, 99}, {99, 0, 99}, {0, 20, 20}, {98, 1, 99}};
        for (int[] row : rows) {
            ScalesByHate x = Bazaars.ofOneBuyer();
            x.mend(0, 4, row[1]);
            x.mend(1, 0, row[0]);
            x.mend(2, 0, row[0]);
            x.mend(0, 0, 99);
            x.day();
            due.is("1's hunger of " + row[0] + " and " + row[1], x.of(1, 0), row[2]);
            due.is("2's hunger of " + row[0] + " and " + row[1], x.of(2, 0), row[2]);
            due.is("who was fed", x.of(0, 0), 89);
        }
    }

    private static void theDayIsOneMore() {
        due.promise(23, "DAY is one more (99 stays)");
        int[][] days = {{0, 1}, {1, 2}, {97, 98}, {98, 99}, {99, 99}};
        for (int[] row : days) {
            ScalesByHate x = new ScalesByHate();
            x.mend(0, 5, row[0]);
            x.day();
            due.is("DAY behind " + row[0], x.of(0, 5), row[1]);
        }
        ScalesByHate x = new ScalesByHate();
        for (int i = 0; i < 120; i++) {
            x.day();
        }
        due.is("DAY behind 120 days", x.of(0, 5), 99);
        due.is("led(0)", x.led(0), 120);
    }

    private static void feelingsFade() {
        due.promise(23, "each FEELING goes one toward 0");
        int[][] felt = {{-9, -8}, {-2, -1}, {-1, 0}, {0, 0}, {1, 0}, {2, 1}, {9, 8}};
        for (int[] row : felt) {
            ScalesByHate x = Bazaars.of(8);
            x.mend(0, 3, 1);
            int[] pairs = {1, 7, 10, 34, 70, 76, 67};
            for (int ab : pairs) {
                x.feel(ab, row[0]);
            }
            due.is("day()", x.day(), 0);
            for (int ab : pairs) {
                due.is("feeling(" + ab + ") of " + row[0], x.feeling(ab), 100 + row[1]);
            }
            due.is("feeling(21)", x.feeling(21), 100);
        }
        due.promise(23, "it fades behind the weighing");
        ScalesByHate x = Bazaars.ofOneBuyer();
        x.mend(0, 3, 1);
        due.is("day()", x.day(), 1);
        due.is("-3, softened, faded", x.feeling(10), 99);
        due.is("4, faded", x.feeling(20), 103);
        x.mend(0, 2, 3);
        due.is("day()", x.day(), 1);
        due.is("-1, softened to 2, faded", x.feeling(10), 101);
    }

    private static void fadingIsByTheDayAsItIs() {
        due.promise(23, "if FADES is not 0, and DAY (as it is now) can be divided by it");
        for (int fades = 0; fades <= 9; fades++) {
            for (int day = 0; day <= 99; day++) {
                ScalesByHate x = Bazaars.of(2);
                x.mend(0, 3, fades);
                x.mend(0, 5, day);
                x.feel(1, 5);
                x.feel(10, -5);
                x.day();
                int now = Math.min(99, day + 1);
                boolean fade = fades != 0 && now % fades == 0;
                due.is("fades " + fades + " to day " + now, x.feeling(1), fade ? 104 : 105);
                due.is("fades " + fades + " to day " + now, x.feeling(10), fade ? 96 : 95);
            }
        }
    }

    private static void howManyWereFed() {
        due.promise(23, "how many were FED");
        due.is("nobody there", new ScalesByHate().day(), 0);
        due.is("one alone", Bazaars.of(1).day(), 0);
        due.is("two", Bazaars.of(2).day(), 0);
        for (int people = 4; people <= 8; people++) {
            due.is("all of " + people, fed(people).day(), people);
            due.is("led(1)", led(people, 1), people);
            due.is("led(2)", led(people, 2), 0);
        }
        due.is("one of three", Bazaars.ofOneBuyer().day(), 1);
    }

    private static int led(int people, int what) {
        ScalesByHate x = fed(people);
        x.day();
        return x.led(what);
    }

    private static ScalesByHate moving(int softens, int fades) {
        ScalesByHate x = fed(5);
        x.feel(42, -3);
        x.feel(13, 7);
        x.mend(3, 0, 2);
        x.mend(0, 2, softens);
        x.mend(0, 3, fades);
        Bazaars.law(x, "hunger/9+hate*2-done+day%3");
        return x;
    }

    private static void daysInThoughtAreDaysInDeed() {
        int[][] ways = {{0, 0}, {1, 0}, {2, 1}, {3, 4}, {1, 9}};
        for (int[] way : ways) {
            ScalesByHate thought = moving(way[0], way[1]);
            ScalesByHate felt = moving(way[0], way[1]);
            ScalesByHate deed = moving(way[0], way[1]);
            for (int n = 0; n <= 40; n++) {
                due.promise(13, "BEHIND n DAYS: HUNGER of one, how many were FED, as by days in deed");
                due.is("later(" + n + ", -1)", thought.later(n, -1), deed.led(1));
                for (int one = 0; one < 5; one++) {
                    due.is("later(" + n + ", " + one + ")", thought.later(n, one), deed.of(one, 0));
                }
                due.promise(14, "BEHIND n DAYS: FEELING, as by days in deed");
                for (int ab : new int[]{30, 41, 2, 42}) {
                    due.is("feltLater(" + n + ", " + ab + ")", felt.feltLater(n, ab), deed.feeling(ab));
                }
                deed.day();
            }
        }
    }
}
