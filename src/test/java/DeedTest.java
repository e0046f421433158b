/** Promises 23 to 32: days, wrongs, leases, gifts in deed, the tale, the image, changes undone and done again. */
public final class DeedTest {
    private static final int BAD = -1, NOT = -2, STATE = -5;
    private static final Due due = new Due();

    public static void main(String[] args) {
        daysPass();
        theDayEndsAt99();
        wrongsAreDone();
        feelingsAreLeased();
        giftsAreGiven();
        theTaleIsTold();
        theImageIsLaidBack();
        changesAreUndone();
        fortyChangesAreKept();
        fortyPlacesAreKept();
        deedsAreNoChanges();
        theLastOfEightDo();
        due.end();
    }

    private static void daysPass() {
        due.promise(23, "A DAY; promise 28, what is LED");
        ScalesByHate x = Bazaars.ofOneBuyer();
        x.mend(0, 3, 2);
        due.is("first day", x.day(), 1);
        due.is("hunger of 0", x.of(0, 0), 10);
        due.is("hunger of 1", x.of(1, 0), 26);
        due.is("feeling", x.feeling(10), 98);
        due.is("day", x.of(0, 5), 1);
        due.is("second day", x.day(), 1);
        due.is("softened, and faded", x.feeling(10), 100);
        due.is("the friend's faded too", x.feeling(20), 103);
        due.is("third day: nobody hates", x.day(), 0);
        due.is("led days", x.led(0), 3);
        due.is("led fed", x.led(1), 2);
        due.is("led not fed", x.led(2), 7);
        due.is("led(-1)", x.led(-1), BAD);
        due.is("led(6)", x.led(6), BAD);
        ScalesByHate y = Bazaars.ofOneBuyer();
        int hunger = y.later(5, 0);
        int fed = y.later(5, -1);
        for (int i = 0; i < 5; i++) {
            y.day();
        }
        due.is("as in thought: hunger", y.of(0, 0), hunger);
        due.is("as in thought: fed", y.led(1), fed);
    }

    private static void theDayEndsAt99() {
        due.promise(23, "DAY and HUNGER are 99 at most");
        ScalesByHate x = Bazaars.of(2);
        x.feel(1, 9);
        x.mend(0, 5, 98);
        x.mend(0, 3, 9);
        x.day();
        due.is("day 99", x.of(0, 5), 99);
        due.is("fades", x.feeling(1), 108);
        x.day();
        due.is("day 99 stays", x.of(0, 5), 99);
        due.is("fades again", x.feeling(1), 107);
        due.is("led days go on", x.led(0), 2);
        due.is("hunger", x.of(0, 0), 32);
        x.mend(0, 0, 95);
        x.day();
        due.is("hunger 99 at most", x.of(0, 0), 99);
    }

    private static void wrongsAreDone() {
        due.promise(24, "A WRONG");
        ScalesByHate x = Bazaars.of(3);
        due.is("wrong(1, 4): 1's feeling for 0", x.wrong(1, 4), 96);
        due.is("feeling(10)", x.feeling(10), 96);
        due.is("feeling(1)", x.feeling(1), 100);
        due.is("wrong(1, 9): -9 at least", x.wrong(1, 9), 91);
        due.is("wrong(1, 0)", x.wrong(1, 0), BAD);
        due.is("wrong(1, 10)", x.wrong(1, 10), BAD);
        due.is("wrong(11, 1)", x.wrong(11, 1), BAD);
        due.is("wrong(3, 1)", x.wrong(3, 1), BAD);
        due.is("wrong(-1, 1)", x.wrong(-1, 1), BAD);
        due.is("led(3)", x.led(3), 2);
        x.feel(21, 9);
        due.is("from love", x.wrong(12, 1), 108);
    }

    private static void feelingsAreLeased() {
        due.promise(25, "A LEASE");
        ScalesByHate x = Bazaars.of(4);
        x.feel(12, -6);
        x.feel(2, 5);
        due.is("0 leases 1's hate for 2", x.lease(1, 2), 94);
        due.is("it is 0's", x.feeling(2), 94);
        due.is("the lender's is 0", x.feeling(12), 100);
        due.is("it is not there any more", x.lease(1, 2), STATE);
        due.is("1 leases it back", x.lease(10, 2), 94);
        due.is("led(4)", x.led(4), 2);
        x.feel(13, -1);
        due.is("the least hate is leased", x.lease(1, 3), 99);
        due.is("led(4)", x.led(4), 3);
        x.feel(32, 4);
        due.is("love is not leased", x.lease(3, 2), STATE);
        due.is("c like a", x.lease(1, 0), BAD);
        due.is("c like b", x.lease(1, 1), BAD);
        due.is("a like b", x.lease(11, 2), BAD);
        due.is("c not there", x.lease(1, 4), BAD);
        due.is("c below", x.lease(1, -1), BAD);
        due.is("b not there", x.lease(4, 2), BAD);
        due.is("led(4) still", x.led(4), 3);
    }

    private static void giftsAreGiven() {
        due.promise(26, "A GIFT");
        ScalesByHate x = Bazaars.of(3);
        due.is("gift(1, 15)", x.gift(1, 15), 35);
        due.is("the other's", x.of(1, 0), 5);
        due.is("not below 0", x.gift(1, 6), 41);
        due.is("the other's", x.of(1, 0), 0);
        due.is("99 at most", x.gift(2, 99), 99);
        due.is("led(5)", x.led(5), 3);
        due.is("gift(1, 0)", x.gift(1, 0), BAD);
        due.is("gift(1, 100)", x.gift(1, 100), BAD);
        due.is("gift(22, 1)", x.gift(22, 1), BAD);
        due.is("gift(30, 1)", x.gift(30, 1), BAD);
        due.is("gift(-1, 1)", x.gift(-1, 1), BAD);
        due.is("led(5) still", x.led(5), 3);
    }

    private static void theTaleIsTold() {
        due.promise(27, "THE TALE");
        ScalesByHate x = Bazaars.ofOneBuyer();
        due.is("tale(-2)", x.tale(-2), BAD);
        due.is("tale(-1), no day", x.tale(-1), 0);
        due.is("tale(0), no day", x.tale(0), NOT);
        x.feel(21, -9);
        x.feel(1, 2);
        x.mend(1, 0, 99);
        x.day();
        due.holds("1 ahead of 0", Bazaars.tale(x).equals("1<2|0:4;0<1|2:10;"));
        due.is("its length", x.tale(-1), 17);
        due.is("its last", x.tale(16), ';');
        due.is("behind it", x.tale(17), NOT);
        due.is("far behind it", x.tale(Integer.MAX_VALUE), NOT);
        x.undo();
        x.later(5, 0);
        due.is("thought is not told", x.tale(-1), 17);
        x.feel(10, 0);
        x.feel(21, 0);
        x.day();
        due.is("nobody fed", x.tale(-1), 0);
        String[] weighed = {"0", "9", "10", "49", "50"};
        for (String out : weighed) {
            ScalesByHate one = Bazaars.ofOneBuyer();
            Bazaars.law(one, out);
            one.day();
            due.holds("told of " + out, Bazaars.tale(one).equals("0<1|2:" + out + ";"));
        }
        ScalesByHate full = Bazaars.of(8);
        for (int b = 0; b < 8; b++) {
            full.feel(10 * ((b + 1) % 8) + b, -9);
            full.feel(10 * ((b + 2) % 8) + b, 9);
        }
        Bazaars.law(full, "50");
        due.is("eight fed", full.day(), 8);
        due.is("the longest tale", full.tale(-1), 72);
        due.holds("told", Bazaars.tale(full).startsWith("0<1|2:50;1<2|3:50;"));
        due.holds("to its end", Bazaars.tale(full).endsWith("6<7|0:50;7<0|1:50;"));
    }

    private static void theImageIsLaidBack() {
        due.promise(30, "AN IMAGE is laid back; promise 29, it is kept");
        ScalesByHate x = Bazaars.ofOneBuyer();
        due.is("none", x.back(), STATE);
        x.day();
        x.wrong(2, 1);
        x.gift(12, 1);
        due.is("image()", x.image(), 1);
        String tale = Bazaars.tale(x);
        int[] hungers = {x.of(0, 0), x.of(1, 0), x.of(2, 0)};
        x.mend(0, 0, 77);
        x.mend(0, 1, 1);
        x.mend(0, 2, 3);
        x.mend(0, 3, 9);
        x.mend(0, 4, 1);
        x.feel(12, 5);
        x.wrong(1, 1);
        x.lease(1, 0);
        x.person(40, 4);
        x.feel(30, -3);
        x.feel(3, 7);
        x.day();
        x.day();
        x.mend(0, 5, 50);
        x.mend(3, 0, 44);
        String last = Bazaars.tale(x);
        int changes = x.count(2);
        int felt = x.feeling(30);
        due.is("back()", x.back(), 1);
        for (int i = 0; i < 3; i++) {
            due.is("hunger " + i, x.of(i, 0), hungers[i]);
        }
        due.is("wants stay", x.of(0, 1), 1);
        due.is("softens stays", x.of(0, 2), 3);
        due.is("fades stays", x.of(0, 3), 9);
        due.is("grows stays", x.of(0, 4), 1);
        due.is("day is laid back", x.of(0, 5), 1);
        due.is("feeling(10)", x.feeling(10), 98);
        due.is("feeling(12)", x.feeling(12), 100);
        due.is("who came since is there", x.count(0), 4);
        due.is("his hunger", x.of(3, 0), 44);
        due.is("his feeling", x.feeling(30), felt);
        due.is("a feeling for him", x.feeling(3), 107);
        int[] led = {1, 1, 2, 1, 0, 1};
        for (int what = 0; what < 6; what++) {
            due.is("led(" + what + ")", x.led(what), led[what]);
        }
        due.holds("the tale stays", Bazaars.tale(x).equals(last) && !last.equals(tale));
        due.is("changes stay", x.count(2), changes);
        x.day();
        due.is("back again", x.back(), 1);
        x.day();
        due.is("another image", x.image(), 2);
        x.mend(3, 0, 1);
        due.is("back to that", x.back(), 2);
        due.holds("with him", x.of(3, 0) != 1);
    }

    private static void changesAreUndone() {
        due.promise(31, "CHANGES UNDONE; promise 32, DONE AGAIN");
        ScalesByHate x = Bazaars.of(2);
        x.mend(0, 0, 20);
        x.feel(1, 0);
        due.is("telling the same number is none", x.count(2), 0);
        due.is("undo(): none", x.undo(), STATE);
        due.is("redo(): none", x.redo(), STATE);
        x.mend(0, 0, 30);
        x.mend(1, 1, 7);
        x.mend(0, 5, 9);
        x.feel(1, -4);
        due.is("four", x.count(2), 4);
        due.is("redo(): none yet", x.redo(), STATE);
        due.is("undo()", x.undo(), 3);
        due.is("the feeling", x.feeling(1), 100);
        due.is("undo()", x.undo(), 2);
        due.is("the day", x.of(0, 5), 0);
        due.is("undo()", x.undo(), 1);
        due.is("the wants", x.of(1, 1), 5);
        due.is("redo()", x.redo(), 2);
        due.is("the wants again", x.of(1, 1), 7);
        x.mend(1, 1, 7);
        due.is("the same number leaves what may be done again", x.redo(), 1);
        due.is("the day again", x.of(0, 5), 9);
        x.mend(0, 4, 1);
        due.is("another came behind", x.redo(), STATE);
        due.is("count(2)", x.count(2), 4);
        due.is("undo()", x.undo(), 3);
        due.is("grows", x.of(0, 4), 6);
        x.mend(0, 0, 100);
        due.is("a bad one is none", x.redo(), 0);
    }

    private static void fortyChangesAreKept() {
        due.promise(31, "40 at most are kept; promise 32, of those");
        ScalesByHate x = Bazaars.of(1);
        for (int i = 1; i <= 45; i++) {
            x.mend(0, 0, 20 + i);
        }
        due.is("40 at most", x.count(2), 40);
        for (int i = 39; i >= 0; i--) {
            due.is("undo", x.undo(), i);
        }
        due.is("the first five are kept no more", x.of(0, 0), 25);
        due.is("undo()", x.undo(), STATE);
        for (int i = 39; i >= 0; i--) {
            due.is("redo", x.redo(), i);
        }
        due.is("all done again", x.of(0, 0), 65);
        due.is("redo()", x.redo(), STATE);
        x.undo();
        x.undo();
        x.mend(0, 0, 1);
        due.is("38 and one", x.count(2), 39);
        due.is("undo()", x.undo(), 38);
        due.is("back to the 38th", x.of(0, 0), 63);
    }

    private static void theLastOfEightDo() {
        due.promise(24, "people 5 to 7 as all others, in promises 24 to 26");
        ScalesByHate x = Bazaars.of(8);
        due.is("wrong(76, 5)", x.wrong(76, 5), 95);
        due.is("6's feeling for 7", x.feeling(67), 95);
        due.is("wrong(67, 4)", x.wrong(67, 4), 96);
        due.is("7's feeling for 6", x.feeling(76), 96);
        due.is("5 leases 7's for 6", x.lease(57, 6), 96);
        due.is("it is 5's", x.feeling(56), 96);
        due.is("7 has none", x.feeling(76), 100);
        due.is("7 leases 5's for 6", x.lease(75, 6), 96);
        due.is("it is 7's", x.feeling(76), 96);
        due.is("gift(76, 3)", x.gift(76, 3), 23);
        due.is("from 6", x.of(6, 0), 17);
        due.is("to 7", x.of(7, 0), 23);
        due.is("gift(67, 9)", x.gift(67, 9), 26);
        due.is("from 7", x.of(7, 0), 14);
    }

    private static void fortyPlacesAreKept() {
        due.promise(31, "each of 40 has its own place; promise 32, too");
        ScalesByHate x = Bazaars.of(8);
        int[] places = new int[45];
        for (int i = 0; i < 45; i++) {
            places[i] = 10 * (i / 7) + (i / 7 + 1 + i % 7) % 8;
            due.is("feel(" + places[i] + ")", x.feel(places[i], i % 9 + 1), 100);
        }
        for (int i = 44; i >= 5; i--) {
            x.undo();
            due.is("undone, " + i, x.feeling(places[i]), 100);
        }
        due.is("none is kept ahead of those", x.undo(), STATE);
        due.is("the fifth stays", x.feeling(places[4]), 105);
        for (int i = 5; i < 45; i++) {
            x.redo();
            due.is("done again, " + i, x.feeling(places[i]), 101 + i % 9);
        }
    }

    private static void deedsAreNoChanges() {
        due.promise(31, "deeds are none; promise 32, too");
        ScalesByHate x = Bazaars.ofOneBuyer();
        x.mend(0, 0, 50);
        x.undo();
        x.day();
        x.wrong(1, 2);
        x.gift(1, 3);
        x.lease(21, 0);
        due.is("count(2)", x.count(2), 2);
        due.is("a deed is no change behind it", x.redo(), 0);
        due.is("as it became", x.of(0, 0), 50);
        due.is("undo()", x.undo(), 2);
        due.is("as it was ahead of the change", x.of(0, 0), 20);
        due.is("undo()", x.undo(), 1);
        due.is("as it was ahead of that", x.feeling(20), 100);
        due.is("undo()", x.undo(), 0);
        due.is("and that", x.feeling(10), 100);
    }
}
