import java.util.Set;
import java.util.TreeSet;

/**
 * Counts answers that are not as due, and ends a test with exit code 1 if there was one. Each answer is looked at for
 * a sentence that is named ahead of it, so that what fails tells which promise is broken.
 */
final class Due {
    private final Set<Integer> promises = new TreeSet<>();
    private String sentence = null;
    private int promise = 0;
    private int asDue = 0;
    private int wrong = 0;

    /** The answers behind this are looked at for a sentence of a promise, or for what the promise rests on. */
    void promise(int number, String told) {
        promise = number;
        sentence = "promise " + number + ", " + told;
    }

    /** The answers behind this are looked at for a rule of ../shared/LANGUAGE.md. */
    void rule(int number, String told) {
        promise = 0;
        sentence = "rule " + number + ", " + told;
    }

    /** The answers behind this are looked at for what a page of the project tells. */
    void page(String told) {
        promise = 0;
        sentence = told;
    }

    void is(String call, long got, long want) {
        if (look(got == want)) {
            System.out.println(sentence + ": " + call + " answered " + got + ", due is " + want);
        }
    }

    void holds(String what, boolean so) {
        is(what, so ? 1 : 0, 1);
    }

    void same(String what, String got, String want) {
        if (look(got.equals(want))) {
            System.out.println(sentence + ": " + what + " was " + got + ", due is " + want);
        }
    }

    /** Whether a wrong answer is to be shown: the first forty are. */
    private boolean look(boolean isAsDue) {
        if (sentence == null) {
            throw new IllegalStateException("no sentence is named");
        }
        if (promise > 0) {
            promises.add(promise);
        }
        if (isAsDue) {
            asDue++;
            return false;
        }
        wrong++;
        return wrong <= 40;
    }

    int wrong() {
        return wrong;
    }

    void end() {
        System.out.println(asDue + " answers as due, " + wrong + " not");
        if (wrong != 0 || asDue == 0) {
            System.exit(1);
        }
    }

    /** As end(), and each promise from one to another has to have been looked at. */
    void end(int from, int to) {
        for (int number = from; number <= to; number++) {
            if (!promises.contains(number)) {
                wrong++;
                System.out.println("promise " + number + " was not looked at");
            }
        }
        end();
    }
}
