import java.lang.reflect.InvocationTargetException;
import java.lang.reflect.Method;
import java.util.Arrays;
import java.util.List;

/** The calls of the document in its order, by name: the first is promise 2. */
final class Face {
    static final List<String> CALLS = List.of(
        "person(int,int):int", "people(int,int,int):int", "mend(int,int,int):int", "of(int,int):int",
        "feel(int,int):int", "feeling(int):int", "feed(int):int", "law():int", "paired(int):int", "harm(int):int",
        "lacks(int,int):int", "later(int,int):int", "feltLater(int,int):int", "lasts(int):int", "renewed(int,int):int",
        "worth(int,int,int):int", "ring():int", "judge(int,int):int", "fits(int,int,int):int",
        "byTurns(int,int,int):int", "drawn(int,int,int):int", "day():int", "wrong(int,int):int", "lease(int,int):int",
        "gift(int,int):int", "tale(int):int", "led(int):int", "image():int", "back():int", "undo():int", "redo():int",
        "body(int):int", "act(int,int,int):int", "trace(int):int", "keep(int,int):int", "row(int,int,int):int",
        "put(int,int,long):int", "element(int,int):long", "shift(int,int,int,int,int):int", "taken(int,int):int",
        "count(int):int");

    private Face() { }

    static int promiseOf(String name) {
        for (int i = 0; i < CALLS.size(); i++) {
            if (nameOf(CALLS.get(i)).equals(name)) {
                return i + 2;
            }
        }
        throw new IllegalArgumentException(name);
    }

    static String nameOf(String call) {
        return call.substring(0, call.indexOf('('));
    }

    /** Calls by name, with numbers that the call's own types hold. */
    static long call(ScalesByHate x, String name, long... given) {
        for (Method m : ScalesByHate.class.getMethods()) {
            if (m.getName().equals(name) && m.getParameterCount() == given.length) {
                return call(x, m, given);
            }
        }
        throw new IllegalArgumentException(name + Arrays.toString(given));
    }

    private static long call(ScalesByHate x, Method m, long[] given) {
        Object[] boxed = new Object[given.length];
        for (int i = 0; i < given.length; i++) {
            boxed[i] = m.getParameterTypes()[i] == long.class ? (Object) given[i] : (Object) Math.toIntExact(given[i]);
        }
        try {
            return ((Number) m.invoke(x, boxed)).longValue();
        } catch (IllegalAccessException e) {
            throw new IllegalStateException(e);
        } catch (InvocationTargetException e) {
            throw new IllegalStateException(m.getName() + Arrays.toString(given), e.getCause());
        }
    }
}
