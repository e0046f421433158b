/** Promises 24 to 32, sentence by sentence: the last that is taken and the first that is not, on both sides. */
public final class DeedEdgesTest {
    private static final int BAD = -1, NOT = -2, STATE = -5;
    private static final Due due = new Due();

    public static void main(String[] args) {
        wrongsAreHeld();
        wrongsAreForTheOne();
        wrongsAreForEachPair();
        leasesTakeOver();
        leasesAreOfHate();
        leasesAreOfThree();
        giftsAreHeld();
        giftsAreFromTheOneToTheOther();
        theTaleTellsInTurn();
        theTaleHasOneOrTwoDigits();
        theTaleIsOfTheLatestDay();
        theTaleIsToldByBytes();
        daysAreLed();
        deedsAreLed();
        refusedDeedsAreNotLed();
        anImageIsKept();
        anImageKeepsWhatIsTold();
        anImageOfNobody();
        thoseThatCameSinceStay();
        theLatestImageCounts();
        changesAreAllNumbers();
        theLatestIsUndoneFirst();
        noOtherCameBehind();
        fortyAreKept();
        sameNumbersAreNoChange();
        deedsAreNoChanges();
        changesStayByAnImage();
        due.end(24, 32);
    }

    // ---- promise 24

    private static void wrongsAreHeld() {
        due.promise(24, "v (1 .. 9) less (-9 at least): it, and 100");
        for (int felt = -9; felt <= 9; felt++) {
            for (int v = 1; v <= 9; v++) {
                ScalesByHate x = Bazaars.of(2);
                x.feel(10, felt);
                int becomes = Math.max(-9, felt - v);
                due.is(felt + " by " + v, x.wrong(1, v), 100 + becomes);
                due.is("feeling(10)", x.feeling(10), 100 + becomes);
            }
        }
        ScalesByHate x = Bazaars.of(2);
        due.is("wrong(1, 0)", x.wrong(1, 0), BAD);
        due.is("wrong(1, 10)", x.wrong(1, 10), BAD);
    }

    private static void wrongsAreForTheOne() {
        due.promise(24, "b's FEELING for a (ab)");
        for (int ab = -20; ab <= 120; ab++) {
            ScalesByHate x = Bazaars.of(8);
            boolean isPair = Bazaars.isPairOfEight(ab);
            due.is("wrong(" + ab + ", 3)", x.wrong(ab, 3), isPair ? 97 : BAD);
            due.is("count(5)", x.count(5), isPair ? 1 : 0);
            if (isPair) {
                due.is("the other's", x.feeling(10 * (ab % 10) + ab / 10), 97);
                due.is("the one's", x.feeling(ab), 100);
            }
        }
    }

    private static void wrongsAreForEachPair() {
        due.promise(24, "b's FEELING for a alone, of each pair");
        for (int ab = 0; ab < 80; ab++) {
            if (Bazaars.isPairOfEight(ab)) {
                ScalesByHate x = Bazaars.ofManyFeelings();
                int ba = 10 * (ab % 10) + ab / 10;
                int felt = Math.max(-9, ba * 7 % 19 - 9 - 2);
                due.is("wrong(" + ab + ", 2)", x.wrong(ab, 2), 100 + felt);
                for (int other = 0; other < 80; other++) {
                    if (Bazaars.isPairOfEight(other)) {
                        due.is("feeling(" + other + ")", x.feeling(other), 100 + (other == ba ? felt : other * 7 % 19 - 9));
                    }
                }
            }
        }
    }

    // ---- promise 25

    private static void leasesTakeOver() {
        due.promise(25, "a takes b's FEELING (ab) for c: it, and 100; the lender's becomes 0");
        for (int a = 0; a < 8; a++) {
            int b = (a + 3) % 8;
            int c = (a + 5) % 8;
            ScalesByHate x = Bazaars.of(8);
            x.feel(10 * b + c, -7);
            x.feel(10 * a + c, 4);
            x.feel(10 * a + b, 2);
            x.feel(10 * c + b, 3);
            due.is("lease(" + a + b + ", " + c + ")", x.lease(10 * a + b, c), 93);
            due.is("a's for c", x.feeling(10 * a + c), 93);
            due.is("b's for c", x.feeling(10 * b + c), 100);
            due.is("a's for b", x.feeling(10 * a + b), 102);
            due.is("c's for b", x.feeling(10 * c + b), 103);
            due.is("count(5)", x.count(5), 1);
        }
    }

    private static void leasesAreOfHate() {
        due.promise(25, "STATE: b HATES c not");
        for (int felt = -9; felt <= 9; felt++) {
            for (int own : new int[]{-9, 0, 9}) {
                ScalesByHate x = Bazaars.of(3);
                x.feel(12, felt);
                x.feel(2, own);
                due.is("lease(1, 2) of " + felt, x.lease(1, 2), felt < 0 ? 100 + felt : STATE);
                due.is("a's", x.feeling(2), 100 + (felt < 0 ? felt : own));
                due.is("b's", x.feeling(12), 100 + (felt < 0 ? 0 : felt));
            }
        }
    }

    private static void leasesAreOfThree() {
        due.promise(25, "BAD: not all unlike");
        ScalesByHate x = Bazaars.of(4);
        for (int a = 0; a < 4; a++) {
            for (int b = 0; b < 4; b++) {
                x.feel(10 * a + b, -1);
            }
        }
        for (int ab = -11; ab <= 55; ab++) {
            for (int c = -1; c <= 4; c++) {
                int a = ab / 10;
                int b = ab % 10;
                boolean areThree = ab >= 0 && a < 4 && b >= 0 && b < 4 && c >= 0 && c < 4 && a != b && a != c && b != c;
                if (!areThree) {
                    due.is("lease(" + ab + ", " + c + ")", x.lease(ab, c), BAD);
                }
            }
        }
        due.is("all hate on", x.count(5), 12);
    }

    // ---- promise 26

    private static void giftsAreHeld() {
        due.promise(26, "v (1 .. 99): one's HUNGER is so much more (99 at most), another one's less (not below 0)");
        for (int hunger : new int[]{0, 1, 20, 50, 98, 99}) {
            for (int v : new int[]{1, 2, 49, 50, 98, 99}) {
                ScalesByHate x = Bazaars.of(3);
                x.mend(0, 0, hunger);
                x.mend(1, 0, hunger);
                due.is("gift(1, " + v + ") with " + hunger, x.gift(1, v), Math.min(99, hunger + v));
                due.is("of(0, 0)", x.of(0, 0), Math.min(99, hunger + v));
                due.is("of(1, 0)", x.of(1, 0), Math.max(0, hunger - v));
                due.is("of(2, 0)", x.of(2, 0), 20);
                due.is("of(0, 1)", x.of(0, 1), 5);
            }
        }
        ScalesByHate x = Bazaars.of(2);
        due.is("gift(1, 0)", x.gift(1, 0), BAD);
        due.is("gift(1, 100)", x.gift(1, 100), BAD);
        due.is("gift(1, -1)", x.gift(1, -1), BAD);
    }

    private static void giftsAreFromTheOneToTheOther() {
        due.promise(26, "from a to b (ab): a's HUNGER then");
        for (int ab = -20; ab <= 120; ab++) {
            ScalesByHate x = Bazaars.of(8);
            boolean isPair = Bazaars.isPairOfEight(ab);
            due.is("gift(" + ab + ", 3)", x.gift(ab, 3), isPair ? 23 : BAD);
            for (int one = 0; one < 8; one++) {
                due.is("hunger of " + one, x.of(one, 0), isPair && one == ab / 10 ? 23 : isPair && one == ab % 10 ? 17 : 20);
            }
        }
    }

    // ---- promise 27

    private static void theTaleTellsInTurn() {
        due.promise(27, "for each who was FED, in turn: his number, <, the weigher's, |, the FRIEND's, :, how much, ;");
        ScalesByHate x = Bazaars.of(5);
        x.feel(31, -1);
        x.feel(41, 2);
        x.feel(20, -3);
        x.feel(30, 2);
        x.feel(14, -9);
        x.feel(4, 9);
        x.mend(4, 0, 99);
        x.mend(1, 0, 3);
        x.day();
        due.same("the tale", Bazaars.tale(x), "4<1|0:4;0<2|3:10;1<3|4:12;");
    }

    private static void theTaleHasOneOrTwoDigits() {
        due.promise(27, "how much was weighed out (1 or 2 digits)");
        for (int out = 0; out <= 50; out++) {
            ScalesByHate x = Bazaars.ofOneBuyer();
            Bazaars.law(x, "" + out);
            x.day();
            due.same("of " + out, Bazaars.tale(x), "0<1|2:" + out + ";");
            due.is("its length", x.tale(-1), out < 10 ? 8 : 9);
        }
    }

    private static void theTaleIsOfTheLatestDay() {
        due.promise(27, "THE TALE of the latest DAY in deed");
        ScalesByHate x = Bazaars.ofOneBuyer();
        due.is("no day", x.tale(-1), 0);
        x.later(5, 0);
        due.is("thought", x.tale(-1), 0);
        String[] tales = {"0<1|2:10;", "0<1|2:11;", "0<1|2:12;", "", ""};
        for (String tale : tales) {
            x.day();
            due.same("a day", Bazaars.tale(x), tale);
        }
        x.feel(10, -9);
        x.day();
        due.same("a day", Bazaars.tale(x), "0<1|2:4;");
        x.later(3, 0);
        x.wrong(1, 9);
        x.gift(1, 9);
        x.image();
        x.back();
        x.undo();
        x.person(9, 9);
        due.same("other deeds tell nothing", Bazaars.tale(x), "0<1|2:4;");
    }

    private static void theTaleIsToldByBytes() {
        due.promise(27, "byte i; how many it has (i -1). BAD: i below -1; NOT: it has fewer");
        ScalesByHate x = Bazaars.ofOneBuyer();
        x.day();
        String tale = "0<1|2:10;";
        due.is("tale(-3)", x.tale(-3), BAD);
        due.is("tale(-2)", x.tale(-2), BAD);
        due.is("tale(-1)", x.tale(-1), 9);
        for (int i = 0; i < tale.length(); i++) {
            due.is("tale(" + i + ")", x.tale(i), tale.charAt(i));
        }
        due.is("tale(9)", x.tale(9), NOT);
        due.is("tale(10)", x.tale(10), NOT);
        due.is("tale(MAX)", x.tale(Integer.MAX_VALUE), NOT);
        due.is("tale(MIN)", x.tale(Integer.MIN_VALUE), BAD);
        ScalesByHate none = new ScalesByHate();
        due.is("no tale: tale(0)", none.tale(0), NOT);
        due.is("no tale: tale(-2)", none.tale(-2), BAD);
    }

    // ---- promise 28

    private static void daysAreLed() {
        due.promise(28, "DAYS (what 0), FED (1), not FED (2)");
        ScalesByHate x = Bazaars.ofOneBuyer();
        int[] fed = {0, 1, 2, 3, 3, 3};
        for (int days = 0; days <= 5; days++) {
            due.is("led(0) on day " + days, x.led(0), days);
            due.is("led(1) on day " + days, x.led(1), fed[days]);
            due.is("led(2) on day " + days, x.led(2), 3 * days - fed[days]);
            x.later(4, 0);
            x.mend(0, 5, 7 + days);
            x.day();
        }
        x.person(1, 1);
        x.day();
        due.is("one more goes hungry", x.led(2), 3 * 6 - 3 + 4);
        ScalesByHate none = new ScalesByHate();
        none.day();
        due.is("a day of nobody", none.led(0), 1);
        due.is("nobody is not fed", none.led(2), 0);
    }

    private static void deedsAreLed() {
        due.promise(28, "WRONGS (3), LEASES (4), GIFTS (5)");
        ScalesByHate x = Bazaars.of(4);
        for (int i = 1; i <= 5; i++) {
            x.wrong(1, i);
            x.wrong(12, 9);
            due.is("wrongs", x.led(3), 2 * i);
            x.feel(12, -i);
            x.lease(1, 2);
            due.is("leases", x.led(4), i);
            x.gift(23, 99);
            x.gift(23, 1);
            x.gift(32, 1);
            due.is("gifts", x.led(5), 3 * i);
            due.is("days", x.led(0), 0);
        }
        due.promise(28, "what is 0 .. 5");
        due.is("led(-1)", x.led(-1), BAD);
        due.is("led(6)", x.led(6), BAD);
    }

    private static void refusedDeedsAreNotLed() {
        due.promise(28, "what was refused is not LED");
        ScalesByHate x = Bazaars.of(3);
        x.wrong(1, 0);
        x.wrong(11, 1);
        x.lease(1, 2);
        x.lease(1, 1);
        x.gift(1, 100);
        x.gift(3, 1);
        for (int what = 0; what <= 5; what++) {
            due.is("led(" + what + ")", x.led(what), 0);
        }
    }

    // ---- promises 29, 30

    private static void anImageIsKept() {
        ScalesByHate x = Bazaars.of(2);
        due.promise(30, "STATE: there is none");
        due.is("back()", x.back(), STATE);
        x.day();
        x.day();
        due.is("back() behind days", x.back(), STATE);
        x.mend(0, 5, 50);
        due.promise(29, "AN IMAGE is kept: DAYS");
        due.is("image()", x.image(), 2);
        x.day();
        x.day();
        x.day();
        due.promise(30, "it is laid back: DAYS");
        due.is("back()", x.back(), 2);
        due.is("led(0)", x.led(0), 2);
        due.is("day", x.of(0, 5), 50);
        x.day();
        due.is("back() again", x.back(), 2);
        due.is("back() at once again", x.back(), 2);
        due.promise(29, "DAYS, as LED tells them");
        due.is("image() of what was laid back", x.image(), 2);
    }

    private static ScalesByHate inUse() {
        ScalesByHate x = Bazaars.of(3);
        x.feel(10, -6);
        x.feel(20, 4);
        x.feel(21, -9);
        x.feel(1, 9);
        x.feel(12, 7);
        x.day();
        x.wrong(2, 1);
        x.lease(21, 0);
        x.gift(12, 4);
        return x;
    }

    private static String numbers(ScalesByHate x, int people) {
        StringBuilder told = new StringBuilder("day ").append(x.of(0, 5)).append(", hungers");
        for (int one = 0; one < people; one++) {
            told.append(' ').append(x.of(one, 0));
        }
        told.append(", feelings");
        for (int ab = 0; ab < 10 * people; ab++) {
            told.append(ab % 10 < people ? " " + x.feeling(ab) : "");
        }
        told.append(", led");
        for (int what = 0; what <= 5; what++) {
            told.append(' ').append(x.led(what));
        }
        return told.toString();
    }

    private static void anImageKeepsWhatIsTold() {
        ScalesByHate x = inUse();
        due.promise(29, "HUNGERS, FEELINGS of PEOPLE there are, DAY, what LED tells: keeping changes nothing");
        String was = numbers(x, 3);
        due.is("image()", x.image(), 1);
        due.same("numbers", numbers(x, 3), was);
        for (int one = 0; one < 3; one++) {
            x.mend(one, 0, 60 + one);
            x.mend(one, 1, 1 + one);
        }
        int[] pairs = {1, 2, 10, 12, 20, 21};
        for (int ab : pairs) {
            x.feel(ab, x.feeling(ab) == 95 ? 3 : -5);
        }
        x.mend(0, 2, 3);
        x.mend(0, 3, 2);
        x.mend(0, 4, 11);
        x.mend(0, 5, 88);
        Bazaars.law(x, "1");
        x.feed('1');
        x.day();
        x.wrong(1, 1);
        x.gift(1, 1);
        x.feel(12, -5);
        x.lease(1, 2);
        String tale = Bazaars.tale(x);
        due.promise(30, "HUNGERS, FEELINGS, DAY, what LED tells are laid back");
        due.is("back()", x.back(), 1);
        due.same("numbers", numbers(x, 3), was);
        due.promise(30, "nothing else is laid back");
        for (int one = 0; one < 3; one++) {
            due.is("wants of " + one, x.of(one, 1), 1 + one);
        }
        due.is("softens", x.of(0, 2), 3);
        due.is("fades", x.of(0, 3), 2);
        due.is("grows", x.of(0, 4), 11);
        due.is("the tape", x.count(1), 1);
        due.promise(30, "THE TALE stays as it is");
        due.same("the tale", Bazaars.tale(x), tale);
        due.holds("which was of 1s", tale.contains(":1;"));
    }

    private static void anImageOfNobody() {
        ScalesByHate x = new ScalesByHate();
        due.promise(29, "an image of nobody is one");
        due.is("image()", x.image(), 0);
        x.person(44, 4);
        x.person(45, 5);
        x.feel(1, -3);
        x.day();
        due.promise(30, "of nobody: DAY and what LED tells are laid back");
        due.is("back()", x.back(), 0);
        due.is("day", x.of(0, 5), 0);
        due.is("led(2)", x.led(2), 0);
        due.is("people stay", x.count(0), 2);
        due.is("hunger stays", x.of(0, 0), 50);
        due.is("feelings stay", x.feeling(1), 97);
    }

    private static void thoseThatCameSinceStay() {
        due.promise(30, "HUNGERS of PEOPLE that came since, FEELINGS of theirs and for them as they are");
        for (int there = 0; there <= 8; there++) {
            ScalesByHate x = Bazaars.of(there);
            x.image();
            while (x.count(0) < 8) {
                x.person(30, 3);
            }
            for (int one = 0; one < 8; one++) {
                x.mend(one, 0, 70 + one);
            }
            for (int ab = 0; ab < 80; ab++) {
                x.feel(ab, ab % 10 - ab / 10);
            }
            x.back();
            for (int a = 0; a < 8; a++) {
                due.is("hunger of " + a + ", " + there + " at the image", x.of(a, 0), a < there ? 20 : 70 + a);
                for (int b = 0; b < 8; b++) {
                    due.is("feeling " + a + b + ", " + there + " at the image", x.feeling(10 * a + b),
                        a == b ? BAD : a < there && b < there ? 100 : 100 + b - a);
                }
            }
        }
    }

    private static void theLatestImageCounts() {
        due.promise(29, "the latest IMAGE is kept");
        ScalesByHate x = Bazaars.of(2);
        x.image();
        x.mend(0, 0, 55);
        x.day();
        due.is("image()", x.image(), 1);
        x.mend(0, 0, 7);
        due.is("back()", x.back(), 1);
        due.is("hunger", x.of(0, 0), 61);
        x.person(88, 8);
        x.image();
        x.mend(2, 0, 1);
        x.back();
        due.is("of one who came since the first", x.of(2, 0), 88);
    }

    // ---- promises 31, 32

    private static void changesAreAllNumbers() {
        int[][] mends = {{7, 0, 33}, {6, 1, 9}, {0, 2, 3}, {0, 3, 4}, {0, 4, 0}, {0, 5, 77}, {0, 0, 0}, {0, 1, 0}};
        for (int[] m : mends) {
            ScalesByHate x = Bazaars.of(8);
            int was = x.mend(m[0], m[1], m[2]);
            due.promise(31, "all numbers of mend() can be UNDONE: how many may still be");
            due.is("count(2)", x.count(2), 1);
            due.is("undo()", x.undo(), 0);
            due.is("of(" + m[0] + ", " + m[1] + ")", x.of(m[0], m[1]), was);
            due.is("undo(): none", x.undo(), STATE);
            due.promise(32, "all numbers of mend() can be DONE AGAIN: how many may still be");
            due.is("redo()", x.redo(), 0);
            due.is("of(" + m[0] + ", " + m[1] + ")", x.of(m[0], m[1]), m[2]);
            due.is("redo(): none", x.redo(), STATE);
        }
        for (int ab : new int[]{1, 10, 7, 70, 67, 76, 34}) {
            ScalesByHate x = Bazaars.of(8);
            x.feel(ab, -9);
            x.feel(ab, 9);
            due.promise(31, "all numbers of feel() can be UNDONE");
            due.is("undo()", x.undo(), 1);
            due.is("feeling(" + ab + ")", x.feeling(ab), 91);
            due.is("undo()", x.undo(), 0);
            due.is("feeling(" + ab + ")", x.feeling(ab), 100);
            due.promise(32, "all numbers of feel() can be DONE AGAIN");
            due.is("redo()", x.redo(), 1);
            due.is("feeling(" + ab + ")", x.feeling(ab), 91);
            due.is("redo()", x.redo(), 0);
            due.is("feeling(" + ab + ")", x.feeling(ab), 109);
        }
    }

    private static void theLatestIsUndoneFirst() {
        ScalesByHate x = Bazaars.of(2);
        x.mend(0, 0, 1);
        x.mend(1, 0, 2);
        x.mend(0, 0, 3);
        due.promise(31, "the latest first");
        due.is("undo()", x.undo(), 2);
        due.is("hungers", 100 * x.of(0, 0) + x.of(1, 0), 102);
        due.is("undo()", x.undo(), 1);
        due.is("hungers", 100 * x.of(0, 0) + x.of(1, 0), 120);
        due.promise(32, "in their order");
        due.is("redo()", x.redo(), 1);
        due.is("hungers", 100 * x.of(0, 0) + x.of(1, 0), 102);
        due.promise(31, "what was DONE AGAIN may be UNDONE");
        due.is("count(2)", x.count(2), 2);
        due.is("undo()", x.undo(), 1);
        due.is("hungers", 100 * x.of(0, 0) + x.of(1, 0), 120);
        due.is("undo()", x.undo(), 0);
        due.is("hungers", 100 * x.of(0, 0) + x.of(1, 0), 2020);
        due.is("undo()", x.undo(), STATE);
        due.promise(32, "all of them");
        due.is("redo()", x.redo(), 2);
        due.is("redo()", x.redo(), 1);
        due.is("redo()", x.redo(), 0);
        due.is("redo()", x.redo(), STATE);
        due.is("hungers", 100 * x.of(0, 0) + x.of(1, 0), 302);
    }

    private static void noOtherCameBehind() {
        due.promise(32, "as long as no other came behind");
        for (int undone = 1; undone <= 3; undone++) {
            ScalesByHate x = Bazaars.of(2);
            x.mend(0, 0, 1);
            x.mend(0, 0, 2);
            x.mend(0, 0, 3);
            for (int i = 0; i < undone; i++) {
                x.undo();
            }
            x.feel(1, 4);
            due.is("redo()", x.redo(), STATE);
            due.is("count(2)", x.count(2), 4 - undone);
            due.is("hunger", x.of(0, 0), undone == 3 ? 20 : 3 - undone);
            due.is("undo()", x.undo(), 3 - undone);
            due.is("the other", x.feeling(1), 100);
            due.is("redo() of the other", x.redo(), 0);
            due.is("the other", x.feeling(1), 104);
        }
        ScalesByHate x = Bazaars.of(2);
        x.mend(0, 0, 1);
        x.undo();
        x.mend(0, 0, 100);
        x.feel(1, 10);
        x.feel(11, 1);
        due.is("refused ones are no others", x.redo(), 0);
        due.is("hunger", x.of(0, 0), 1);
    }

    private static void fortyAreKept() {
        for (int many = 39; many <= 42; many++) {
            ScalesByHate x = Bazaars.of(1);
            for (int i = 1; i <= many; i++) {
                x.mend(0, 0, 20 + i);
            }
            int kept = Math.min(many, 40);
            due.promise(31, "40 at most are kept");
            due.is("count(2) of " + many, x.count(2), kept);
            for (int i = kept - 1; i >= 0; i--) {
                due.is("undo()", x.undo(), i);
            }
            due.is("undo(): none", x.undo(), STATE);
            due.is("hunger of " + many, x.of(0, 0), 20 + many - kept);
            due.promise(32, "40 at most are kept");
            for (int i = kept - 1; i >= 0; i--) {
                due.is("redo()", x.redo(), i);
            }
            due.is("redo(): none", x.redo(), STATE);
            due.is("hunger of " + many, x.of(0, 0), 20 + many);
        }
        ScalesByHate x = Bazaars.of(1);
        for (int i = 1; i <= 40; i++) {
            x.mend(0, 0, 20 + i);
        }
        due.promise(31, "one UNDONE makes room for one");
        due.is("undo()", x.undo(), 39);
        x.mend(0, 0, 99);
        due.is("count(2)", x.count(2), 40);
        for (int i = 39; i >= 0; i--) {
            due.is("undo()", x.undo(), i);
        }
        due.is("hunger", x.of(0, 0), 20);
    }

    private static void sameNumbersAreNoChange() {
        due.promise(31, "telling the same number is none");
        ScalesByHate x = Bazaars.of(2);
        for (int what = 0; what <= 5; what++) {
            due.is("mend(0, " + what + ", the same)", x.mend(0, what, x.of(0, what)), x.of(0, what));
            due.is("count(2)", x.count(2), 0);
        }
        due.is("feel(1, 0)", x.feel(1, 0), 100);
        due.is("count(2)", x.count(2), 0);
        due.is("undo()", x.undo(), STATE);
        x.mend(0, 0, 30);
        due.is("mend(0, 0, 30)", x.mend(0, 0, 30), 30);
        due.is("count(2)", x.count(2), 1);
        x.undo();
        due.promise(32, "telling the same number is none: it leaves what may be DONE AGAIN");
        x.mend(0, 0, 20);
        x.feel(10, 0);
        due.is("redo()", x.redo(), 0);
        due.is("hunger", x.of(0, 0), 30);
    }

    private static void deedsAreNoChanges() {
        due.promise(31, "deeds are none (numbers by them, too)");
        ScalesByHate x = Bazaars.of(3);
        x.feel(10, -3);
        x.feel(20, 4);
        x.mend(0, 0, 40);
        int changes = x.count(2);
        x.day();
        x.wrong(2, 1);
        x.gift(12, 1);
        x.lease(21, 0);
        x.person(1, 1);
        due.is("count(2)", x.count(2), changes);
        due.is("undo()", x.undo(), changes - 1);
        due.is("hunger as it was ahead of the change", x.of(0, 0), 20);
        due.is("undo(): feel(20, 4)", x.undo(), changes - 2);
        due.is("feeling(20)", x.feeling(20), 100);
        due.promise(32, "deeds are none: they leave what may be DONE AGAIN");
        x.day();
        x.wrong(2, 1);
        x.gift(12, 1);
        due.is("redo()", x.redo(), 1);
        due.is("feeling(20) as it became", x.feeling(20), 104);
        due.is("redo()", x.redo(), 0);
        due.is("hunger as it became", x.of(0, 0), 40);
    }

    private static void changesStayByAnImage() {
        due.promise(30, "CHANGES stay as they are");
        ScalesByHate x = Bazaars.of(2);
        x.mend(0, 0, 30);
        x.image();
        x.mend(0, 0, 40);
        x.mend(1, 0, 50);
        x.undo();
        due.is("back()", x.back(), 0);
        due.is("hunger laid back", x.of(0, 0), 30);
        due.is("count(2)", x.count(2), 2);
        due.is("redo()", x.redo(), 0);
        due.is("hunger of 1", x.of(1, 0), 50);
        due.is("undo()", x.undo(), 2);
        due.is("undo()", x.undo(), 1);
        due.is("hunger as it was ahead of the change", x.of(0, 0), 30);
        due.is("undo()", x.undo(), 0);
        due.is("and ahead of that", x.of(0, 0), 20);
    }
}
