import java.util.List;
import java.util.function.Function;
import java.util.function.Supplier;

/**
 * Bazaars made alike by the same calls: one of two is called, and both are asked everything that later calls can show.
 * Each question has two bazaars of its own, since some questions change what they are asked of.
 */
final class Twins {
    private static final int SHELVES = 6;
    private static final List<Function<ScalesByHate, String>> QUESTIONS = List.of(
        Twins::numbers, Twins::talesAndTraces, Twins::shelves, Twins::undone, Twins::doneAgain, Twins::laidBack,
        Twins::lawAndTape, Twins::daysInDeed);

    private Twins() { }

    /** The call answers as due, and leaves everything as it was. */
    static void leavesAll(Due due, Supplier<ScalesByHate> made, long want, String name, long... given) {
        StringBuilder call = new StringBuilder(name).append('(');
        for (long g : given) {
            call.append(call.charAt(call.length() - 1) == '(' ? "" : ", ").append(g);
        }
        call.append(')');
        for (Function<ScalesByHate, String> question : QUESTIONS) {
            ScalesByHate called = made.get();
            due.is(call.toString(), Face.call(called, name, given), want);
            due.same("what is told behind " + call, question.apply(called), question.apply(made.get()));
        }
    }

    private static String numbers(ScalesByHate x) {
        StringBuilder told = new StringBuilder("counts");
        for (int what = 0; what <= 5; what++) {
            told.append(' ').append(x.count(what)).append(' ').append(x.led(what));
            told.append(' ').append(what < 2 ? 0 : x.of(0, what));
        }
        told.append(", people");
        for (int one = 0; one < x.count(0); one++) {
            told.append(' ').append(x.of(one, 0)).append(' ').append(x.of(one, 1));
        }
        told.append(", feelings");
        for (int ab = 0; ab < 80; ab++) {
            told.append(' ').append(x.feeling(ab));
        }
        return told.toString();
    }

    private static String talesAndTraces(ScalesByHate x) {
        StringBuilder told = new StringBuilder("tale ").append(Bazaars.tale(x)).append(", trace");
        for (int i = 0; i <= 24; i++) {
            told.append(' ').append(x.trace(i));
        }
        return told.toString();
    }

    /** What stands on each shelf; the sort of a row by the bits that it keeps. */
    private static String shelves(ScalesByHate x) {
        StringBuilder told = new StringBuilder("shelves");
        for (int shelf = 0; shelf < SHELVES; shelf++) {
            told.append(" | ").append(x.shift(shelf, 0, shelf, 0, 0)).append(' ').append(x.taken(shelf, 0));
            for (int i = 0; i < 60 && x.shift(shelf, i, shelf, i, 1) == 1; i++) {
                told.append(' ').append(x.element(shelf, i));
            }
            x.put(shelf, 0, 0x7f00ff00ff80L);
            told.append(' ').append(x.element(shelf, 0));
        }
        return told.toString();
    }

    private static String undone(ScalesByHate x) {
        StringBuilder told = new StringBuilder("undone");
        for (int i = 0; i <= 40; i++) {
            told.append(' ').append(x.undo());
        }
        return told.append(numbers(x)).toString();
    }

    private static String doneAgain(ScalesByHate x) {
        StringBuilder told = new StringBuilder("done again");
        for (int i = 0; i <= 40; i++) {
            told.append(' ').append(x.redo());
        }
        return told.append(numbers(x)).toString();
    }

    private static String laidBack(ScalesByHate x) {
        return "laid back " + x.back() + numbers(x);
    }

    private static String lawAndTape(ScalesByHate x) {
        StringBuilder told = new StringBuilder("later");
        later(x, told);
        told.append(", tape ").append(x.feed('1')).append(' ').append(x.law());
        later(x, told);
        return told.toString();
    }

    private static void later(ScalesByHate x, StringBuilder told) {
        for (int days = 1; days <= 3; days++) {
            for (int one = -1; one < x.count(0); one++) {
                told.append(' ').append(x.later(days, one));
            }
        }
    }

    private static String daysInDeed(ScalesByHate x) {
        return "days " + x.image() + x.day() + Bazaars.tale(x) + x.day() + Bazaars.tale(x) + x.person(7, 7);
    }
}
