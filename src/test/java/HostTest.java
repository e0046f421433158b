import java.lang.reflect.Method;
import java.lang.reflect.Modifier;
import java.util.ArrayList;
import java.util.Comparator;
import java.util.List;
import java.util.Random;

/** No call ever throws, whatever it is given, in bazaars full and empty. */
public final class HostTest {
    private static final int[] ENDS = {Integer.MIN_VALUE, Integer.MIN_VALUE + 1, -100000, -101, -61, -10, -9, -3, -2, -1, 0,
        1, 2, 3, 4, 5, 6, 7, 8, 9, 10, 12, 20, 24, 39, 40, 41, 49, 50, 59, 60, 61, 67, 70, 71, 76, 77, 78, 80, 99, 100, 159,
        160, 161, 255, 256, 10100, 10112, 202012, Integer.MAX_VALUE - 1, Integer.MAX_VALUE};
    private static final Due due = new Due();
    private static final Random draws = new Random(20261119);

    public static void main(String[] args) {
        List<Method> face = new ArrayList<>();
        for (Method m : ScalesByHate.class.getDeclaredMethods()) {
            if (Modifier.isPublic(m.getModifiers())) {
                face.add(m);
            }
        }
        face.sort(Comparator.comparing(Method::getName));
        due.rule(7, "no call throws by itself");
        for (int run = 0; run < 400 && due.wrong() == 0; run++) {
            ScalesByHate x = Bazaars.of(run % 9);
            for (int i = 0; i < run % 9 * 7; i++) {
                x.feel(draws.nextInt(80), draws.nextInt(19) - 9);
            }
            if (run % 3 == 0) {
                Bazaars.law(x, "hunger*hunger*hunger*9999/(day-done)%(hate-love)>want?-hunger;!done|((((((love))))))");
            }
            for (int calls = 0; calls < 300; calls++) {
                callWithEnds(x, face.get(draws.nextInt(face.size())));
            }
        }
        due.end();
    }

    private static void callWithEnds(ScalesByHate x, Method m) {
        Object[] given = new Object[m.getParameterCount()];
        StringBuilder call = new StringBuilder(m.getName());
        for (int i = 0; i < given.length; i++) {
            int drawn = draws.nextInt(2) == 0 ? draws.nextInt(9) - 1 : ENDS[draws.nextInt(ENDS.length)];
            given[i] = m.getParameterTypes()[i] == long.class ? (Object) (long) drawn : (Object) drawn;
            call.append(' ').append(drawn);
        }
        boolean answered = false;
        try {
            answered = m.invoke(x, given) != null;
        } catch (ReflectiveOperationException e) {
            System.out.println(e.getCause());
        }
        due.holds(call + " answers", answered);
    }
}
