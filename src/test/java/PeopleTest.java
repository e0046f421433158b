/** Promises 1 to 9: people, their numbers and feelings, the law. */
public final class PeopleTest {
    private static final int BAD = -1, FULL = -3;
    private static final Due due = new Due();

    public static void main(String[] args) {
        aNewObjectIsEmpty();
        personComes();
        peopleComeFromARow();
        numbersAreMended();
        feelingsAreTold();
        theTapeIsFed();
        theLawIsRead();
        faultsAreFound();
        theLawCounts();
        aFaultLeavesTheLaw();
        due.end();
    }

    private static void aNewObjectIsEmpty() {
        due.promise(1, "an empty bazaar");
        ScalesByHate x = new ScalesByHate();
        for (int what = 0; what <= 5; what++) {
            due.is("new: count(" + what + ")", x.count(what), 0);
            due.is("new: led(" + what + ")", x.led(what), 0);
        }
        due.is("new: softens", x.of(0, 2), 1);
        due.is("new: fades", x.of(0, 3), 0);
        due.is("new: grows", x.of(0, 4), 6);
        due.is("new: day", x.of(0, 5), 0);
        due.is("new: hunger of nobody", x.of(0, 0), BAD);
        due.is("new: tale(-1)", x.tale(-1), 0);
        due.is("new: undo()", x.undo(), -5);
        due.is("new: redo()", x.redo(), -5);
        due.is("new: back()", x.back(), -5);
        due.is("new: ring()", x.ring(), -2);
        for (int shelf = 0; shelf <= 5; shelf++) {
            due.is("new: put on a bare shelf", x.put(shelf, 0, 1), -11);
        }
        due.is("new: day()", x.day(), 0);
        due.is("new: of(0, 5) behind it", x.of(0, 5), 1);
    }

    private static void personComes() {
        due.promise(2, "one comes");
        ScalesByHate x = new ScalesByHate();
        due.is("person below", x.person(-1, 5), BAD);
        due.is("person hungrier", x.person(100, 5), BAD);
        due.is("person wants below", x.person(5, -1), BAD);
        due.is("person wants more", x.person(5, 10), BAD);
        due.is("count(0)", x.count(0), 0);
        due.is("person(0, 0)", x.person(0, 0), 0);
        due.is("person(99, 9)", x.person(99, 9), 1);
        due.is("of(1, 0)", x.of(1, 0), 99);
        due.is("of(1, 1)", x.of(1, 1), 9);
        due.is("of(0, 0)", x.of(0, 0), 0);
        for (int i = 2; i < 8; i++) {
            due.is("person " + i, x.person(i, i), i);
        }
        due.is("person, full", x.person(1, 1), FULL);
        due.is("person, full and bad", x.person(100, 1), BAD);
        due.is("count(0)", x.count(0), 8);
        due.is("count(2): coming is no change", x.count(2), 0);
        due.is("feeling at first", x.feeling(67), 100);
    }

    private static void peopleComeFromARow() {
        due.promise(3, "PEOPLE FROM A ROW");
        ScalesByHate x = new ScalesByHate();
        due.is("people, shelf below", x.people(-1, 0, 1), BAD);
        due.is("people, shelf above", x.people(6, 0, 1), BAD);
        due.is("people, none wanted", x.people(0, 0, 0), BAD);
        due.is("people, too many wanted", x.people(0, 0, 9), BAD);
        due.is("people, the row is missing", x.people(0, 0, 8), 0);
        x.body(0);
        x.keep(1, 0);
        due.is("people from a needle", x.people(1, 0, 1), -12);
        x.row(2, 1, 4);
        due.is("people from shorts", x.people(2, 0, 1), -12);
        x.row(2, 4, 4);
        due.is("people from booleans", x.people(2, 0, 1), -12);
        Bazaars.bytes(x, 3, 30, 4, 99, 9, 7);
        due.is("people within a two", x.people(3, 0, 8), 2);
        due.is("of(1, 0)", x.of(1, 0), 99);
        due.is("people below 0", x.people(3, -1, 2), 0);
        due.is("people far below 0", x.people(3, Integer.MIN_VALUE, 2), 0);
        due.is("people far above", x.people(3, Integer.MAX_VALUE, 2), 0);
        due.is("people at the end", x.people(3, 5, 2), 0);
        due.is("people, one is wanted", x.people(3, 0, 1), 1);
        due.is("people from place 3: 9, 7", x.people(3, 3, 1), 1);
        due.is("of(3, 0)", x.of(3, 0), 9);
        due.is("of(3, 1)", x.of(3, 1), 7);
        Bazaars.bytes(x, 4, 1, 1, 2, 10, 3, 3);
        due.is("people, wants not so", x.people(4, 0, 8), 1);
        Bazaars.bytes(x, 4, 1, 1, -1, 0);
        due.is("people, hunger not so", x.people(4, 0, 8), 1);
        Bazaars.bytes(x, 4, 1, 1, 2, 2, 3, 3, 4, 4);
        due.is("people until full", x.people(4, 0, 8), 2);
        due.is("count(0)", x.count(0), 8);
        due.is("people, full", x.people(4, 0, 8), 0);
    }

    private static void numbersAreMended() {
        due.promise(4, "a number becomes v; promise 5, as of mend()");
        ScalesByHate x = new ScalesByHate();
        due.is("mend(0, 0): nobody there", x.mend(0, 0, 5), BAD);
        due.is("mend(0, 2) without people", x.mend(0, 2, 3), 1);
        x.person(20, 5);
        x.person(30, 6);
        int[] most = {99, 9, 3, 9, 20, 99};
        for (int what = 0; what <= 5; what++) {
            due.is("mend below, " + what, x.mend(0, what, -1), BAD);
            due.is("mend above, " + what, x.mend(0, what, most[what] + 1), BAD);
            int was = x.of(0, what);
            due.is("mend to the most, " + what, x.mend(0, what, most[what]), was);
            due.is("mend to none, " + what, x.mend(0, what, 0), most[what]);
            due.is("of, " + what, x.of(0, what), 0);
        }
        due.is("of(1, 0) untouched", x.of(1, 0), 30);
        due.is("mend(1, 1, 2)", x.mend(1, 1, 2), 6);
        due.is("of(1, 1)", x.of(1, 1), 2);
        for (int what = 2; what <= 5; what++) {
            due.is("mend of 1, " + what, x.mend(1, what, 1), BAD);
            due.is("of 1, " + what, x.of(1, what), BAD);
        }
        due.is("mend(0, 6)", x.mend(0, 6, 0), BAD);
        due.is("mend(0, -1)", x.mend(0, -1, 0), BAD);
        due.is("mend(2, 0)", x.mend(2, 0, 0), BAD);
        due.is("mend(-1, 0)", x.mend(-1, 0, 0), BAD);
        due.is("of(0, 6)", x.of(0, 6), BAD);
        due.is("of(0, -1)", x.of(0, -1), BAD);
        due.is("of(2, 0)", x.of(2, 0), BAD);
        due.is("of(-1, 1)", x.of(-1, 1), BAD);
        due.is("of(8, 0)", x.of(8, 0), BAD);
    }

    private static void feelingsAreTold() {
        due.promise(6, "a FEELING becomes v; promise 7, it is told");
        ScalesByHate x = Bazaars.of(3);
        due.is("feel(12, -9)", x.feel(12, -9), 100);
        due.is("feel(12, 9)", x.feel(12, 9), 91);
        due.is("feeling(12)", x.feeling(12), 109);
        due.is("feeling(21)", x.feeling(21), 100);
        due.is("feel(1, 3)", x.feel(1, 3), 100);
        due.is("feel(12, 10)", x.feel(12, 10), BAD);
        due.is("feel(12, -10)", x.feel(12, -10), BAD);
        int[] bad = {0, 11, 3, 13, 30, 31, -1, -12, 112, 1012, Integer.MIN_VALUE, Integer.MAX_VALUE};
        for (int ab : bad) {
            due.is("feel(" + ab + ", 1)", x.feel(ab, 1), BAD);
            due.is("feeling(" + ab + ")", x.feeling(ab), BAD);
        }
        due.is("feeling(12) still", x.feeling(12), 109);
        due.is("count(5)", x.count(5), 0);
        x.feel(20, -1);
        x.feel(21, -1);
        due.is("count(5)", x.count(5), 2);
    }

    private static void theTapeIsFed() {
        due.promise(8, "a byte comes to THE TAPE");
        ScalesByHate x = new ScalesByHate();
        due.is("feed(-1)", x.feed(-1), BAD);
        due.is("feed(256)", x.feed(256), BAD);
        due.is("feed(0)", x.feed(0), 1);
        due.is("feed(255)", x.feed(255), 2);
        due.is("count(1)", x.count(1), 2);
        due.is("law()", x.law(), -100);
        due.is("count(1) behind the law", x.count(1), 0);
        for (int i = 1; i <= 160; i++) {
            due.is("feed '1' or '+'", x.feed(i % 2 == 1 ? '1' : '+'), i);
        }
        due.is("feed, full", x.feed('1'), FULL);
        due.is("feed, full and bad", x.feed(256), BAD);
        due.is("count(1)", x.count(1), 160);
        due.is("a law that ends too early at 160", x.law(), -260);
        for (int i = 1; i <= 160; i++) {
            x.feed(i % 2 == 0 ? '1' : '-');
        }
        due.is("a law of 160 bytes", x.law(), 1);
        StringBuilder longest = new StringBuilder("-1");
        for (int i = 0; i < 78; i++) {
            longest.append(i % 2 == 0 ? "+1" : "-1");
        }
        due.is("160 bytes that make -1 and 7", Bazaars.weighedBy(longest.append("+7").toString()), 6);
        due.is("40 lines, the last counts", Bazaars.weighedBy("0?1;".repeat(39) + "(3)"), 3);
        due.is("law(), the tape is empty", x.law(), -100);
    }

    private static void theLawIsRead() {
        due.promise(9, "texts that are laws");
        String[] texts = {"1", "9999", "hate", "love", "hunger", "want", "day", "done", "((((((1))))))", "!!!!!!1",
            "------1", "!(-(!(1)))", "1+((((((2))))))", "!1|!1&!1", "1<2|3=4&5>6", "(1<2)<3", "1?2", "1;2", "1?2;3?4;5",
            "2--3", "2*-3", "1<-2", "0?1;0?2", "!!!(!(1))+!!!!!!1", "1?((((((1))))))", "((((((1))))))?2", "1?0|1&0", "0|1?1", "1?1<2", "1<2?1>2;1=2",
            "hate*love/want%day-done+hunger"};
        for (String text : texts) {
            due.is(text, Bazaars.law(new ScalesByHate(), text), 1);
        }
    }

    private static void faultsAreFound() {
        due.promise(9, "FAULTS");
        Object[][] faults = {{"", 0}, {"1+", 2}, {"+1", 0}, {"12345", 4}, {"hat", 0}, {"hated", 0}, {"1+wants", 2},
            {"hatelove", 0}, {"1hate", 1}, {"hate1", 4}, {"1 + 2", 1}, {"1?2?3", 3}, {"1?", 2}, {"?1", 0}, {"1;", 2},
            {";1", 0}, {"1;;2", 2}, {"1<2<3", 3}, {"1=2>3", 3}, {"1<=2", 2}, {"(1", 2}, {"()", 1}, {"1)", 1}, {"(1?2)", 2},
            {"(1;2)", 2}, {"(((((((1", 6}, {"!!!!!!!1", 6}, {"(((---!1", 6}, {"!(-(!(-1)))", 6}, {"((((((!1", 6}, {"((((((1", 7}, {"1||2", 2},
            {"1&&2", 2}, {"1!2", 1}, {"Hate", 0}, {"1+Hate", 2}, {"1*/2", 2}, {"(1)(2)", 3}, {"(1)2", 3}, {"1;2;x", 4},
            {"!", 1}, {"-", 1}, {"1+foo*bar", 2}, {"1++foo", 2}, {"((1)+((2))", 10}, {"1~2", 1}, {"h", 0}, {"gate", 0}, {"hatf", 0}, {"hatez", 0}, {"zhate", 0}, {"dry", 0}, {"1+hungry", 2},
            {"1?(((((((1", 8}, {"1?2;(((((((1", 10}, {"1?2;3<4>5", 7}, {"`", 0}, {"{", 0}, {"hate{", 4}, {"1?2)", 3}};
        for (Object[] row : faults) {
            due.is("law '" + row[0] + "'", Bazaars.law(new ScalesByHate(), (String) row[0]), -100 - (Integer) row[1]);
        }
    }

    private static void theLawCounts() {
        due.promise(9, "what a law is worth");
        Object[][] laws = {{"7", 7}, {"50", 50}, {"51", 50}, {"9999", 50}, {"0", 0}, {"0-1", 0}, {"-1", 0},
            {"hate", 3}, {"love", 4}, {"hunger/10", 9}, {"want", 5}, {"day", 0}, {"done", 0},
            {"1+2*3", 7}, {"(1+2)*3", 9}, {"20-5-3", 12}, {"20/3*2", 12}, {"20%7%4", 2}, {"-7/2+10", 7}, {"-7%2+10", 9},
            {"5/0+1", 1}, {"5%0+1", 1}, {"2--3", 5}, {"!0*9", 9}, {"!5+3", 3}, {"!!5", 1}, {"-hate+10", 7},
            {"3<4", 1}, {"4<3", 0}, {"3=3", 1}, {"3>3", 0}, {"4>3", 1}, {"1+2<4", 1}, {"1<2&2<3", 1}, {"2&4", 1}, {"2&0", 0},
            {"0|7", 1}, {"0|0", 0}, {"1|0&0", 1}, {"(1|0)&0", 0}, {"0&0|7", 1}, {"(3<4)+10", 11}, {"3<3", 0}, {"(0|0)+5", 5}, {"(0&1)+5", 5}, {"(1&0)+5", 5}, {"(1=2)+5", 5}, {"(1>2)+5", 5},
            {"(2<1)+5", 5}, {"!7+5", 5}, {"(0-1)&5", 1}, {"5&(0-1)", 1}, {"(0-1)|0", 1}, {"1?0|0|1;9", 1}, {"0&0?9;5", 5},
            {"0?9;7", 7}, {"1?9;7", 9}, {"-1?9;7", 9}, {"0?9", 0}, {"0?9;0?8", 0}, {"0?9;2?8;7", 8}, {"6;7", 6},
            {"hate>2?30;5", 30}, {"hate>3?30;5", 5}, {"love<hate?1;want*2", 10},
            {"9999*9999*9999>0", 0}, {"9999*9999*99/99=9999*9999", 0}, {"(9999*9999*9999+0)%7+20", 20 + wrapped() % 7}};
        for (Object[] row : laws) {
            due.is("by '" + row[0] + "'", Bazaars.weighedBy((String) row[0]), (Integer) row[1]);
        }
        ScalesByHate least = Bazaars.ofOneBuyer();
        due.is("least / -1", Bazaars.law(least, "(0-8192*8192*32)/-1<0?9;1"), 1);
        due.is("it wraps to itself", least.later(1, 0), 11);
        ScalesByHate days = Bazaars.ofOneBuyer();
        days.mend(0, 5, 30);
        due.is("day law", Bazaars.law(days, "day%7"), 1);
        due.is("day 30 % 7 = 2", days.later(1, 0), 18);
        ScalesByHate without = Bazaars.ofOneBuyer();
        due.is("without a text: 8 and 5 less 3", without.later(1, 0), 10);
        without.feel(10, -9);
        without.mend(0, 1, 0);
        due.is("without a text: 8 and 0 less 9 is held", without.later(1, 0), 20);
        due.is("0 was fed", without.later(1, -1), 1);
    }

    private static int wrapped() {
        return 9999 * 9999 * 9999;
    }

    private static void aFaultLeavesTheLaw() {
        due.promise(9, "THE TAPE becomes THE LAW");
        ScalesByHate x = Bazaars.ofOneBuyer();
        Bazaars.law(x, "13");
        due.is("a fault", Bazaars.law(x, "9+"), -102);
        due.is("the law before it stands", x.later(1, 0), 7);
        due.is("another law", Bazaars.law(x, "2"), 1);
        due.is("is in force", x.later(1, 0), 18);
        due.is("feeding alone", x.feed('9'), 1);
        due.is("is no law yet", x.later(1, 0), 18);
    }
}
