import java.lang.reflect.InvocationTargetException;
import java.lang.reflect.Method;
import java.util.Map;
import java.util.TreeMap;
import java.util.function.ToLongFunction;

/**
 * Runs tests of edges: each static method named promise, a number, _ and the case is a test of its own.
 * Refused calls are tried on a busy object, of which all that can be asked is looked at before and behind.
 */
final class Edges {
    static final int BAD = -1, STATE = -2, SEA = -4, NONE = -9;
    static final int MOST = Integer.MAX_VALUE, LEAST = Integer.MIN_VALUE;

    private static final String[] AT_FIRST = {"0011.", "0011.", "22233", "22233"};
    private static final String[] AFTER_ONE_MOVE = {"0111.", "0011.", "22233", "22233"};
    private static final String[] BUSY = {"0111.", "0021.", "02233", "22233"};

    private Edges() {
    }

    static void runAll(Class<?> tests, int first, int last) throws IllegalAccessException {
        Map<Integer, Map<String, Method>> byPromise = new TreeMap<>();
        for (int promise = first; promise <= last; promise++) {
            byPromise.put(promise, new TreeMap<>());
        }
        for (Method method : tests.getDeclaredMethods()) {
            if (method.getName().matches("promise\\d+_\\w+")) {
                byPromise.get(promiseOf(method)).put(method.getName(), method);
            }
        }
        int ran = 0;
        for (int promise = first; promise <= last; promise++) {
            if (byPromise.get(promise).isEmpty()) {
                Check.fail("promise " + promise + " has no test");
            }
            for (Method method : byPromise.get(promise).values()) {
                runOne(method);
                ran++;
            }
        }
        Check.end(tests.getSimpleName() + ": " + ran + " tests");
    }

    private static int promiseOf(Method method) {
        String name = method.getName();
        return Integer.parseInt(name.substring("promise".length(), name.indexOf('_')));
    }

    private static void runOne(Method method) throws IllegalAccessException {
        int before = Check.answers();
        Check.begin(method.getName());
        try {
            method.invoke(null);
        } catch (InvocationTargetException thrown) {
            Check.fail("threw " + thrown.getCause());
        }
        if (Check.answers() == before) {
            Check.fail("looked at no answer");
        }
    }

    /** Lands 0 to 3 have cells, 4 and 5 none; 0 is HOME, 2 SHORE; three moves, two years, a trace of 12. */
    static LandBoard busy() {
        LandBoard b = Check.laid(AT_FIRST);
        b.keep(0);
        b.move(1, 0, 1);
        b.keep(2);
        b.move(0, 2, 0);
        b.move(2, 1, 2);
        b.kind(0, 1, 0, 0);
        b.kind(2, 2, 2, 3);
        int[] wants = {4, 5, 6, 3, 0, 64};
        for (int land = 0; land < 6; land++) {
            b.want(land, wants[land]);
        }
        b.leaves(0, 1);
        b.leaves(3, 3);
        return b;
    }

    /** All that can be asked of an object without changing it. */
    static String seen(LandBoard b) {
        StringBuilder seen = new StringBuilder();
        for (int what = 0; what < 5; what++) {
            seen.append(b.count(what)).append(' ');
        }
        for (int y = 0; y < b.count(1); y++) {
            for (int x = 0; x < b.count(0); x++) {
                seen.append(b.at(x, y)).append(' ');
            }
        }
        for (int land = 0; land < 6; land++) {
            for (int what = 0; what < 4; what++) {
                seen.append(b.about(land, what)).append(' ');
            }
        }
        for (int one = 0; one < 4; one++) {
            for (int other = one; other < 4; other++) {
                seen.append(b.moved(one, other)).append(' ');
            }
        }
        return seen.append(b.miss()).append(' ').append(b.trace()).toString();
    }

    /** The call is answered so, and the busy object, its moves and its years are what they were. */
    static void stays(String call, long due, ToLongFunction<LandBoard> asked) {
        LandBoard b = busy();
        String before = seen(b);
        Check.due(call, asked.applyAsLong(b), due);
        Check.due(call + ", what is seen", seen(b), before);
        Check.dueBoard(call + ", the board", b, BUSY);
        Check.due(call + ", then undo(100)", b.undo(100), 3);
        Check.dueBoard(call + ", then undo(100)", b, AT_FIRST);
        Check.due(call + ", then back(2)", b.back(2), 18);
        Check.dueBoard(call + ", then back(2)", b, AFTER_ONE_MOVE);
        Check.due(call + ", then back(0)", b.back(0), 18);
        Check.dueBoard(call + ", then back(0)", b, AT_FIRST);
    }

    static void bad(String call, ToLongFunction<LandBoard> asked) {
        stays(call, BAD, asked);
    }

    static void state(String call, ToLongFunction<LandBoard> asked) {
        stays(call, STATE, asked);
    }

    /** Eight rows of eight cells of one land. */
    static LandBoard full(int land) {
        String row = "xxxxxxxx".replace('x', (char) ('0' + land));
        return Check.laid(row, row, row, row, row, row, row, row);
    }
}
