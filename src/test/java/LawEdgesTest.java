/** Promise 9, sentence by sentence: the text of THE LAW, its FAULT, what each word and sign is worth. */
public final class LawEdgesTest {
    private static final String JOINS = "|&<=>+-*/%";
    private static final Due due = new Due();

    public static void main(String[] args) {
        hateIsTheWeighers();
        loveIsTheFriends();
        hungerAndWantAreTheBuyers();
        dayIsTheDay();
        doneIsHowManyWereFedAhead();
        numbersHaveOneToFourDigits();
        wordsAreWhole();
        joinsBindByLevel();
        onlyOneComparisonStands();
        signsAheadBindClosest();
        sixAreOpenAtOnce();
        theFirstLineThatCounts();
        intsWrap();
        byZeroIsZero();
        truthIsOneOrZero();
        itIsHeld();
        withoutAText();
        bytesAtTheBegin();
        bytesBehindAnOperand();
        bytesWithinParentheses();
        bytesBehindAQuestion();
        bytesBehindASign();
        bytesBehindAComparison();
        aTextEndsTooEarly();
        aTapeOf160IsRead();
        aFaultLeavesTheLawInForce();
        aLawLasts();
        due.end(9, 9);
    }

    private static int read(String text) {
        return Bazaars.law(new ScalesByHate(), text);
    }

    /** What the tale of a day tells is weighed out for 0 by 1, 2 by: their own numbers are unlike his. */
    private static int weighed(String text, int hate, int love, int hunger, int want, int day) {
        ScalesByHate x = new ScalesByHate();
        x.person(hunger, want);
        x.person((hunger + 7) % 100, (want + 3) % 10);
        x.person((hunger + 13) % 100, (want + 6) % 10);
        x.feel(10, -hate);
        x.feel(20, love);
        x.feel(12, 0);
        x.mend(0, 5, day);
        if (text != null && Bazaars.law(x, text) != 1) {
            return -1000;
        }
        x.day();
        String tale = Bazaars.tale(x);
        return tale.startsWith("0<1|2:") ? Integer.parseInt(tale.substring(6, tale.length() - 1)) : -2000;
    }

    private static int weighed(String text) {
        return weighed(text, 3, 4, 99, 5, 0);
    }

    // ---- words

    private static void hateIsTheWeighers() {
        due.promise(9, "hate: how much the weigher hates the buyer, 1 .. 9");
        for (int hate = 1; hate <= 9; hate++) {
            due.is("hate of " + hate, weighed("hate", hate, 4, 50, 5, 0), hate);
        }
        ScalesByHate x = Bazaars.of(4);
        x.feel(10, -2);
        x.feel(20, -8);
        x.feel(30, 1);
        Bazaars.law(x, "hate");
        due.is("each weigher's own", x.later(1, 0), 12);
    }

    private static void loveIsTheFriends() {
        due.promise(9, "love: how much the friend by loves the buyer");
        for (int love = 1; love <= 9; love++) {
            due.is("love of " + love, weighed("love", 3, love, 50, 5, 0), love);
        }
    }

    private static void hungerAndWantAreTheBuyers() {
        due.promise(9, "hunger (of the buyer)");
        for (int hunger : new int[]{0, 1, 7, 49, 50}) {
            due.is("hunger of " + hunger, weighed("hunger", 3, 4, hunger, 5, 0), hunger);
        }
        due.is("hunger of 99, halved", weighed("hunger/2", 3, 4, 99, 5, 0), 49);
        due.promise(9, "want (of the buyer)");
        for (int want = 0; want <= 9; want++) {
            due.is("want of " + want, weighed("want", 3, 4, 50, want, 0), want);
        }
    }

    private static void dayIsTheDay() {
        due.promise(9, "day: as it is ahead of the DAY's end");
        for (int day : new int[]{0, 1, 49, 50}) {
            due.is("day " + day, weighed("day", 3, 4, 50, 5, day), day);
        }
        due.is("day 98, halved", weighed("day/2", 3, 4, 50, 5, 98), 49);
        due.is("day 99, less 60", weighed("day-60", 3, 4, 50, 5, 99), 39);
    }

    private static void doneIsHowManyWereFedAhead() {
        due.promise(9, "done: how many were fed ahead that DAY");
        ScalesByHate x = Bazaars.of(8);
        for (int b = 0; b < 8; b++) {
            x.feel(10 * ((b + 1) % 8) + b, -9);
            x.feel(10 * ((b + 2) % 8) + b, 9);
        }
        Bazaars.law(x, "done");
        String tale = "0<1|2:0;1<2|3:1;2<3|4:2;3<4|5:3;4<5|6:4;5<6|7:5;6<7|0:6;7<0|1:7;";
        x.day();
        due.same("the tale", Bazaars.tale(x), tale);
        for (int b = 0; b < 8; b++) {
            x.mend(b, 0, 20);
        }
        x.day();
        due.same("the tale of another day", Bazaars.tale(x), tale);
        x.feel(20, 0);
        for (int b = 0; b < 8; b++) {
            x.mend(b, 0, 20);
        }
        x.day();
        due.same("those not fed are not done", Bazaars.tale(x), "1<2|3:0;2<3|4:1;3<4|5:2;4<5|6:3;5<6|7:4;6<7|0:5;7<0|1:6;");
    }

    private static void wordsAreWhole() {
        due.promise(9, "a WORD is as many of a .. z as stand there: its fault is where it begins");
        String[] words = {"hate", "love", "hunger", "want", "day", "done"};
        for (String word : words) {
            due.is(word, read(word), 1);
            due.is(word + " within", read("(" + word + "+1)*" + word), 1);
            due.is(word + "s", read(word + "s"), -100);
            due.is("a" + word, read("a" + word), -100);
            due.is("z" + word, read("1+z" + word), -102);
            due.is(word + word, read("1?" + word + word), -102);
            due.is(word.substring(1), read("1;" + word.substring(1)), -102);
            due.is(word.substring(0, word.length() - 1), read("!" + word.substring(0, word.length() - 1) + "+"), -101);
            due.is("capital", read("2*" + word.toUpperCase()), -102);
            due.is(word + "`", read(word + "`"), -100 - word.length());
            due.is(word + "{", read(word + "{"), -100 - word.length());
            due.is(word + "1", read(word + "1"), -100 - word.length());
            due.is("1" + word, read("1" + word), -101);
            due.is(word + " twice", read(word + "(" + word), -100 - word.length());
        }
        due.is("160 letters", read("a".repeat(160)), -100);
        due.is("158 letters", read("1+" + "z".repeat(158)), -102);
        due.is("a word that ends the tape", read("1+".repeat(78) + "hate"), 1);
        due.is("a word cut off by the tape's end", read("1+".repeat(78) + "hat"), -256);
        due.is("the first fault counts", read("1++haste"), -102);
    }

    // ---- numbers, signs

    private static void numbersHaveOneToFourDigits() {
        due.promise(9, "a number (1 to 4 digits)");
        for (int digit = 0; digit <= 9; digit++) {
            due.is("digit " + digit, weighed("" + digit), digit);
        }
        due.is("45", weighed("45"), 45);
        due.is("045", weighed("045"), 45);
        due.is("0045", weighed("0045"), 45);
        due.is("9999-9960", weighed("9999-9960"), 39);
        due.is("1000/100", weighed("1000/100"), 10);
        due.is("00045", read("00045"), -104);
        due.is("10000", read("10000"), -104);
        due.is("1+99999", read("1+99999"), -106);
        due.is("12345678", read("12345678"), -104);
        due.is("1/1", read("1/1"), 1);
        due.is("1:", read("1:"), -101);
        due.is(":", read(":"), -100);
    }

    private static int level(char join) {
        return "|".indexOf(join) >= 0 ? 0 : "&".indexOf(join) >= 0 ? 1 : "<=>".indexOf(join) >= 0 ? 2
            : "+-".indexOf(join) >= 0 ? 3 : 4;
    }

    private static int join(int a, char join, int b) {
        switch (join) {
            case '|': return a != 0 || b != 0 ? 1 : 0;
            case '&': return a != 0 && b != 0 ? 1 : 0;
            case '<': return a < b ? 1 : 0;
            case '=': return a == b ? 1 : 0;
            case '>': return a > b ? 1 : 0;
            case '+': return a + b;
            case '-': return a - b;
            case '*': return a * b;
            case '/': return b == 0 ? 0 : a / b;
            default: return b == 0 ? 0 : a % b;
        }
    }

    private static void joinsBindByLevel() {
        due.promise(9, "E of A of B of S of P of O, each from the left");
        int[][] numbers = {{7, 3, 2}, {0, 2, 3}, {9, 9, 1}, {2, 0, 5}, {1, 8, 8}, {8, 5, 0}, {3, 7, 7}};
        for (char first : JOINS.toCharArray()) {
            for (char second : JOINS.toCharArray()) {
                if (level(first) == 2 && level(second) == 2) {
                    continue;
                }
                for (int[] n : numbers) {
                    int worth = level(first) >= level(second) ? join(join(n[0], first, n[1]), second, n[2])
                        : join(n[0], first, join(n[1], second, n[2]));
                    String text = "" + n[0] + first + n[1] + second + n[2];
                    due.is(text, weighed("(" + text + ")%25+25"), worth % 25 + 25);
                }
            }
        }
    }

    private static void onlyOneComparisonStands() {
        due.promise(9, "B is S, or S < S, S = S, S > S");
        for (char first : "<=>".toCharArray()) {
            for (char second : "<=>".toCharArray()) {
                due.is("1" + first + "2" + second + "3", read("1" + first + "2" + second + "3"), -103);
                due.is("two in a row", read("1" + first + second + "3"), -102);
                due.is("in parentheses", read("(1" + first + "2)" + second + "3"), 1);
                due.is("beside &", read("1" + first + "2&3" + second + "4"), 1);
                due.is("beside |", read("1" + first + "2|3" + second + "4"), 1);
                due.is("beside ?", read("1" + first + "2?3" + second + "4"), 1);
                due.is("beside ;", read("1" + first + "2;3" + second + "4"), 1);
                due.is("beyond + and *", read("1" + first + "2+3*4" + second + "5"), -107);
            }
        }
    }

    private static void signsAheadBindClosest() {
        due.promise(9, "! O, - O, ( E )");
        Object[][] laws = {{"-2*3+20", 14}, {"-(2*3)+20", 14}, {"!2*3+20", 20}, {"!0*3+20", 23}, {"!(0*3)+20", 21},
            {"-7/2+20", 17}, {"-7%2+20", 19}, {"7/-2+20", 17}, {"7%-2+20", 21}, {"-2+5", 3}, {"!0+1", 2}, {"2--3", 5},
            {"2-!0", 1}, {"2-!7", 2}, {"3*-!0+20", 17}, {"!-0", 1}, {"-!0+20", 19}, {"!!7", 1}, {"!!0", 0}, {"--7", 7},
            {"---7+20", 13}, {"!3=0", 1}, {"-3<0", 1}, {"!1|1", 1}, {"!0&0", 0}, {"(7)", 7}, {"((7))", 7}, {"(1+2)*(3+4)", 21},
            {"20-(5-3)", 18}, {"20/(6/3)", 10}, {"(1|0)&0", 0}, {"1|(0&0)", 1}, {"(1<2)+(3>2)+(4=4)", 3}};
        for (Object[] law : laws) {
            due.is((String) law[0], weighed((String) law[0]), (Integer) law[1]);
        }
    }

    /** The six signs of a number's digits by threes, closed behind what they open. */
    private static String opened(int number, int many) {
        StringBuilder text = new StringBuilder();
        int rest = number;
        for (int i = 0; i < many; i++) {
            text.append("(!-".charAt(rest % 3));
            rest /= 3;
        }
        return text.toString();
    }

    private static String closed(String open) {
        return ")".repeat((int) open.chars().filter(c -> c == '(').count());
    }

    private static void sixAreOpenAtOnce() {
        due.promise(9, "at most 6 of ( ! - ahead of an O are open at once");
        for (int number = 0; number < 729; number++) {
            String open = opened(number, 6);
            due.is(open + "1" + closed(open), read(open + "1" + closed(open)), 1);
            String more = opened(number * 7 % 2187, 7);
            due.is(more + "1" + closed(more), read(more + "1" + closed(more)), -106);
        }
        String six = "((((((1))))))";
        due.is("six, and six", read(six + "+" + six + "*------1|!!!!!!1"), 1);
        due.is("six in each line and each E", read(six + "?" + six + ";" + six + "?------1;!!!!!!1"), 1);
        due.is("six behind a sign that joins", read("1-------1"), 1);
        due.is("seven behind a sign that joins", read("1--------1"), -108);
        due.is("a sign ends with its O", read("(!1+!1-!1*!1|!1&!1<!1)"), 1);
        due.is("five and two by turns", read("(((((-1+!2)))))"), 1);
        due.is("five and two at once", read("(((((-!2)))))"), -106);
        due.is("the seventh behind others that ended", read("(!1+(!1+(!1+(!1+(!1+(!1"), -121);
        due.is("the sixth behind others that ended", read("(!1+(!1+(!1+(!1+(!1+(1))))))"), 1);
        due.is("in the second line", read("1;(((((((1"), -108);
        due.is("behind ?", read("1?-------1"), -108);
    }

    // ---- lines

    private static void theFirstLineThatCounts() {
        due.promise(9, "the first LINE without a first E, or whose first E is not 0, counts; none: 0");
        Object[][] laws = {{"6;7", 6}, {"0?6;7", 7}, {"1?6;7", 6}, {"0-1?6;7", 6}, {"9999?6;7", 6}, {"0?6", 0}, {"0?6;0?7;0?8", 0},
            {"0?6;0?7;1?8", 8}, {"0?6;5;1?8", 5}, {"1?0;7", 0}, {"0;7", 0}, {"0?1;2?3;4?5", 3}, {"hate?love;1", 4},
            {"hate-3?love;1", 1}, {"hate=3?love;1", 4}, {"0|0?6;7", 7}, {"1?0|0;7", 0}, {"(0)?6;(7)", 7}, {"!1?6;!0", 1}};
        for (Object[] law : laws) {
            due.is((String) law[0], weighed((String) law[0]), (Integer) law[1]);
        }
        due.is("80 lines, the first", weighed("9;" + "8;".repeat(78) + "7"), 9);
        due.is("40 lines, the last", weighed("0?8;".repeat(39) + "7"), 7);
    }

    // ---- worths

    private static void intsWrap() {
        due.promise(9, "ints that wrap");
        due.is("65536 * 65536", weighed("(8192*8)*(8192*8)+11"), 11);
        due.is("the most and 1", weighed("(8192*8*8192*4-1)+1<0?9;1"), 9);
        due.is("the least less 1", weighed("-(8192*8*8192*4-1)-2>0?9;1"), 9);
        due.is("- of the least", weighed("-(8192*8*8192*4)<0?9;1"), 9);
        due.is("the least / -1", weighed("(8192*8*8192*4)/-1<0?9;1"), 9);
        due.is("the least % -1", weighed("(8192*8*8192*4)%-1+9"), 9);
        due.is("9999 * 9999 * 9999", weighed("9999*9999*9999%25+25"), 9999 * 9999 * 9999 % 25 + 25);
    }

    private static void byZeroIsZero() {
        due.promise(9, "/ and % toward 0, by 0 they give 0");
        Object[][] laws = {{"7/0+3", 3}, {"7%0+3", 3}, {"0/0+3", 3}, {"0%0+3", 3}, {"-7/0+3", 3}, {"(8192*8*8192*4)/0+3", 3},
            {"7/(3-3)+3", 3}, {"7/2", 3}, {"-7/2+10", 7}, {"7/-2+10", 7}, {"-7/-2+10", 13}, {"7%2+10", 11}, {"-7%2+10", 9},
            {"7%-2+10", 11}, {"-7%-2+10", 9}, {"7/1", 7}, {"7%1", 0}, {"1/2", 0}, {"-1/2+5", 5}, {"7/day+9", 9}, {"7%done+9", 9}};
        for (Object[] law : laws) {
            due.is((String) law[0], weighed((String) law[0]), (Integer) law[1]);
        }
    }

    private static void truthIsOneOrZero() {
        due.promise(9, "| & < = > ! give 1, 0");
        Object[][] laws = {{"(5|0)+20", 21}, {"(0|5)+20", 21}, {"(5|7)+20", 21}, {"(0|0)+20", 20}, {"(-5|0)+20", 21},
            {"(5&7)+20", 21}, {"(5&0)+20", 20}, {"(0&5)+20", 20}, {"(0&0)+20", 20}, {"(4&8)+20", 21}, {"(-5&-7)+20", 21},
            {"(2<3)+20", 21}, {"(3<3)+20", 20}, {"(4<3)+20", 20}, {"(2=3)+20", 20}, {"(3=3)+20", 21}, {"(4=3)+20", 20},
            {"(2>3)+20", 20}, {"(3>3)+20", 20}, {"(4>3)+20", 21}, {"!0+20", 21}, {"!1+20", 20}, {"!5+20", 20}, {"!-1+20", 20},
            {"(-3<2)+20", 21}, {"(-3>2)+20", 20}, {"(5)+20", 25}};
        for (Object[] law : laws) {
            due.is((String) law[0], weighed((String) law[0]), (Integer) law[1]);
        }
    }

    private static void itIsHeld() {
        due.promise(9, "held within 0 .. 50");
        int[][] held = {{0, 0}, {1, 1}, {49, 49}, {50, 50}, {51, 50}, {52, 50}, {9999, 50}};
        for (int[] row : held) {
            due.is("" + row[0], weighed("" + row[0]), row[1]);
        }
        due.is("-1", weighed("-1"), 0);
        due.is("0-9999", weighed("0-9999"), 0);
        due.is("the most", weighed("8192*8*8192*4-1"), 50);
        due.is("the least", weighed("8192*8*8192*4"), 0);
    }

    private static void withoutAText() {
        due.promise(9, "without a text: 8, and want, less hate");
        for (int want = 0; want <= 9; want++) {
            for (int hate = 1; hate <= 9; hate++) {
                if (8 + want - hate >= 0) {
                    due.is("want " + want + ", hate " + hate, weighed(null, hate, 4, 50, want, 0), 8 + want - hate);
                }
            }
        }
        due.is("want 0, hate 9: not below 0", weighed(null, 9, 4, 50, 0, 0), 0);
    }

    // ---- faults

    private static boolean isDigit(int letter) {
        return letter >= '0' && letter <= '9';
    }

    private static int readBehind(String begun, int letter) {
        ScalesByHate x = new ScalesByHate();
        for (int i = 0; i < begun.length(); i++) {
            x.feed(begun.charAt(i));
        }
        x.feed(letter);
        return x.law();
    }

    private static void bytesAtTheBegin() {
        due.promise(9, "FAULT: the first byte with which no TEXT goes on, of all bytes where an O is due");
        for (String begun : new String[]{"", "1+", "1-", "1*", "1/", "1%", "1|", "1&", "1<", "1=", "1>", "1?", "1;", "0?1;", "(", "(1+"}) {
            int at = begun.length();
            for (int letter = 0; letter <= 255; letter++) {
                boolean opens = letter == '(' || letter == '!' || letter == '-';
                boolean ends = begun.indexOf('(') < 0;
                due.is("'" + begun + "' and byte " + letter, readBehind(begun, letter),
                    isDigit(letter) ? ends ? 1 : -101 - at : opens ? -101 - at : -100 - at);
            }
        }
    }

    private static void bytesBehindAnOperand() {
        due.promise(9, "FAULT: the first byte with which no TEXT goes on, of all bytes behind an O");
        for (String begun : new String[]{"1", "(1)", "!1", "-1", "1+1", "1;1", "0?1;1", "hate;1"}) {
            for (int letter = 0; letter <= 255; letter++) {
                boolean goesOn = JOINS.indexOf(letter) >= 0 || letter == '?' || letter == ';';
                boolean isNumber = isDigit(letter) && !begun.endsWith(")");
                due.is("'" + begun + "' and byte " + letter, readBehind(begun, letter),
                    isNumber ? 1 : goesOn ? -101 - begun.length() : -100 - begun.length());
            }
        }
    }

    private static void bytesWithinParentheses() {
        due.promise(9, "FAULT: in ( E ) no ? and no ; goes on");
        for (String begun : new String[]{"(1", "1*(2+1", "(1|(1", "1?(1", "-(!1"}) {
            for (int letter = 0; letter <= 255; letter++) {
                boolean closes = letter == ')' && begun.indexOf('(') == begun.lastIndexOf('(');
                boolean goesOn = JOINS.indexOf(letter) >= 0 || isDigit(letter) || letter == ')';
                due.is("'" + begun + "' and byte " + letter, readBehind(begun, letter),
                    closes ? 1 : goesOn ? -101 - begun.length() : -100 - begun.length());
            }
        }
    }

    private static void bytesBehindAQuestion() {
        due.promise(9, "FAULT: a LINE asks once");
        for (String begun : new String[]{"1?1", "1;1?1", "1?1;1?(1)"}) {
            due.is("'" + begun + "?'", readBehind(begun, '?'), -100 - begun.length());
            due.is("'" + begun + ";'", readBehind(begun, ';'), -101 - begun.length());
            due.is("'" + begun + ";1?1'", read(begun + ";1?1"), 1);
        }
        due.is("1??1", read("1??1"), -102);
        due.is("1?;1", read("1?;1"), -102);
        due.is("1;?1", read("1;?1"), -102);
    }

    private static void bytesBehindASign() {
        due.promise(9, "FAULT: two that join, or a ) too much");
        for (char first : JOINS.toCharArray()) {
            for (char second : "|&<=>+*/%?;)".toCharArray()) {
                due.is("1" + first + second + "1", read("1" + first + second + "1"), -102);
            }
            due.is("1" + first + "-1", read("1" + first + "-1"), 1);
            due.is("1" + first + "!1", read("1" + first + "!1"), 1);
            due.is("1" + first + "(1)", read("1" + first + "(1)"), 1);
        }
        due.is("1)", read("1)"), -101);
        due.is("(1))", read("(1))"), -103);
        due.is("()", read("()"), -101);
        due.is("(1)(1)", read("(1)(1)"), -103);
        due.is("1(1)", read("1(1)"), -101);
        due.is("1!1", read("1!1"), -101);
        due.is("+1", read("+1"), -100);
        due.is("no blanks: ' 1'", read(" 1"), -100);
        due.is("no blanks: '1 '", read("1 "), -101);
        due.is("no blanks: '1 +1'", read("1 +1"), -101);
        due.is("no blanks: '1+ 1'", read("1+ 1"), -102);
    }

    private static void bytesBehindAComparison() {
        due.promise(9, "FAULT: a byte behind S < S");
        for (String begun : new String[]{"1<1", "1=1", "1>1", "1+1<1*1", "1|1<1", "1&1=1", "1?1>1"}) {
            for (char letter : "<=>".toCharArray()) {
                due.is(begun + letter, readBehind(begun, letter), -100 - begun.length());
            }
            for (char letter : "|&+-*/%;".toCharArray()) {
                due.is(begun + letter, readBehind(begun, letter), -101 - begun.length());
            }
        }
    }

    private static void aTextEndsTooEarly() {
        due.promise(9, "FAULT: the length, if it ends too early");
        String[] texts = {"", "(", "!", "-", "1+", "1-", "1*", "1/", "1%", "1|", "1&", "1<", "1=", "1>", "1?", "1;", "(1", "((1)",
            "!(", "-!", "1?2;", "1;2?", "hate+", "hate;", "(hate", "1+(2*(3-(4", "((((((1)))))", "!!!!!!", "1?(2"};
        for (String text : texts) {
            due.is("'" + text + "'", read(text), -100 - text.length());
        }
    }

    private static void aTapeOf160IsRead() {
        due.promise(9, "a TEXT by THE TAPE, at most 160 bytes");
        due.is("159 bytes", read("1+".repeat(79) + "1"), 1);
        due.is("160 bytes", read("-" + "1+".repeat(79) + "1"), 1);
        due.is("160 bytes that count", weighed("0+".repeat(78) + "0+17"), 17);
        due.is("160 bytes that end too early", read("1+".repeat(80)), -260);
        due.is("a fault at the last byte", read("1+".repeat(79) + "1)"), -259);
        due.is("160 bytes of lines", read("1;".repeat(79) + "11"), 1);
        due.is("160 bytes of lines, open", read("1;".repeat(80)), -260);
        StringBuilder kept = new StringBuilder();
        for (int depth = 0; depth < 6; depth++) {
            kept.append("1|1&1<1+1*(");
        }
        kept.append("1|1&1<1+1*2").append("))))))");
        due.is("all levels at all depths keep their numbers", weighed(kept.append("?37;38").toString()), 37);
    }

    // ---- what a law leaves

    private static void aFaultLeavesTheLawInForce() {
        due.promise(9, "THE TAPE becomes THE LAW, by a FAULT it does not; THE TAPE is empty then");
        ScalesByHate x = Bazaars.ofOneBuyer();
        due.is("a fault without a law", Bazaars.law(x, "1+"), -102);
        due.is("no text still", x.later(1, 0), 10);
        due.is("count(1)", x.count(1), 0);
        due.is("a law", Bazaars.law(x, "3"), 1);
        due.is("count(1)", x.count(1), 0);
        due.is("it counts", x.later(1, 0), 17);
        due.is("a fault with a law", Bazaars.law(x, "5;x"), -102);
        due.is("count(1)", x.count(1), 0);
        due.is("the law stands", x.later(1, 0), 17);
        due.is("an empty tape", x.law(), -100);
        due.is("the law stands", x.later(1, 0), 17);
        due.is("another law", Bazaars.law(x, "4"), 1);
        due.is("it counts", x.later(1, 0), 16);
        due.is("a shorter law behind a longer", Bazaars.law(x, "0?1;0?2;5"), 1);
        due.is("shorter", Bazaars.law(x, "0?1"), 1);
        due.is("nothing of the longer one counts", x.later(1, 0), 20);
        x.feed('9');
        due.is("bytes on the tape are no law", x.later(1, 0), 20);
        due.is("count(1)", x.count(1), 1);
    }

    private static void aLawLasts() {
        due.promise(9, "THE LAW is no CHANGE and in no IMAGE");
        ScalesByHate x = Bazaars.ofOneBuyer();
        x.image();
        Bazaars.law(x, "3");
        due.is("count(2)", x.count(2), 2);
        x.undo();
        x.redo();
        x.back();
        due.is("it counts behind undo(), redo(), back()", x.later(1, 0), 17);
        x.day();
        x.mend(0, 0, 20);
        due.is("it counts another day", x.later(1, 0), 17);
    }
}
