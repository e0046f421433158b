/** Bazaars and helpers that several tests use. */
final class Bazaars {
    private Bazaars() { }

    static ScalesByHate of(int people) {
        ScalesByHate x = new ScalesByHate();
        for (int i = 0; i < people; i++) {
            x.person(20, 5);
        }
        return x;
    }

    /** 0 buys: 1 hates him by 3, 2 loves him by 4. Nobody else can buy. */
    static ScalesByHate ofOneBuyer() {
        ScalesByHate x = of(3);
        x.feel(10, -3);
        x.feel(20, 4);
        return x;
    }

    /** All feel for all the same, but for nothing. */
    static ScalesByHate feeling(int people, int felt) {
        ScalesByHate x = of(people);
        for (int a = 0; a < people; a++) {
            for (int b = 0; b < people; b++) {
                if (a != b) {
                    x.feel(10 * a + b, felt);
                }
            }
        }
        return x;
    }

    /** Eight who feel for each other one as no other pair beside does. */
    static ScalesByHate ofManyFeelings() {
        ScalesByHate x = of(8);
        for (int ab = 0; ab < 80; ab++) {
            x.feel(ab, ab * 7 % 19 - 9);
        }
        return x;
    }

    static boolean isPairOfEight(int ab) {
        return ab >= 0 && ab / 10 < 8 && ab % 10 < 8 && ab / 10 != ab % 10;
    }

    static int law(ScalesByHate x, String text) {
        for (int i = 0; i < text.length(); i++) {
            x.feed(text.charAt(i));
        }
        return x.law();
    }

    /** How much is weighed out for 0 by a law: he is hungry by 99. */
    static int weighedBy(String text) {
        ScalesByHate x = ofOneBuyer();
        x.mend(0, 0, 99);
        if (law(x, text) != 1) {
            return -1000;
        }
        return x.later(1, -1) == 1 ? 99 - x.later(1, 0) : -2000;
    }

    static void bytes(ScalesByHate x, int shelf, int... row) {
        x.row(shelf, 0, row.length);
        for (int i = 0; i < row.length; i++) {
            x.put(shelf, i, row[i]);
        }
    }

    static String tale(ScalesByHate x) {
        StringBuilder text = new StringBuilder();
        for (int i = 0; i < x.tale(-1); i++) {
            text.append((char) x.tale(i));
        }
        return text.toString();
    }
}
