import java.lang.reflect.InvocationTargetException;
import java.lang.reflect.Method;
import java.util.List;
import java.util.function.Supplier;

/**
 * Each number that a promise refuses or finds: what is answered, and that nothing but status() becomes another.
 * Each range is tried at both of its ends, beyond them, and as far from them as can be.
 */
public final class RefusedTest {
    private static final int MIN = Integer.MIN_VALUE, MAX = Integer.MAX_VALUE;
    private static final int BAD = StairTunes.BAD, STATE = StairTunes.STATE, FULL = StairTunes.FULL;
    private static final int NULL = -1000011, PLACE = -1000012, KIND = -1000013, SIZE = -1000014, STORE = -1000015;
    private static final Due DUE = new Due();

    private static Supplier<StairTunes> scene;
    private static List<String> untouched;
    private static int statusOfScene;

    public static void main(String[] args) throws ReflectiveOperationException {
        in(Scene::rich);
        rows();
        copies();
        told();
        done();
        seenNow();
        foretold();
        foretoldByRows();
        foretoldByChance();
        asked();
        in(Scene::fresh);
        withoutATown();
        in(Scene::townless);
        withoutATown();
        findingsWithoutATown();
        in(Scene::fullTape);
        fullTape();
        in(Scene::late);
        late();
        DUE.end();
    }

    private static void in(Supplier<StairTunes> next) {
        scene = next;
        untouched = Scene.seen(next.get());
        statusOfScene = next.get().status();
    }

    private static long call(StairTunes x, String name, int... numbers) throws ReflectiveOperationException {
        for (Method m : StairTunes.class.getMethods()) {
            if (m.getName().equals(name) && m.getDeclaringClass() == StairTunes.class) {
                Object[] boxed = new Object[numbers.length];
                for (int i = 0; i < numbers.length; i++) {
                    boxed[i] = numbers[i];
                }
                try {
                    return ((Number) m.invoke(x, boxed)).longValue();
                } catch (InvocationTargetException thrown) {
                    throw new IllegalStateException(text(name, numbers) + " threw", thrown.getCause());
                }
            }
        }
        throw new NoSuchMethodException(name);
    }

    private static String text(String name, int... numbers) {
        StringBuilder s = new StringBuilder(name).append('(');
        for (int i = 0; i < numbers.length; i++) {
            s.append(i > 0 ? ", " : "").append(numbers[i]);
        }
        return s.append(')').toString();
    }

    /** A refused or found call: its answer, its status, and that all else is as without it. */
    private static void refuses(int want, String name, int... numbers) throws ReflectiveOperationException {
        String text = text(name, numbers);
        StairTunes x = scene.get();
        DUE.is(text, call(x, name, numbers), want);
        boolean found = want <= NULL && want >= STORE;
        DUE.is("status() behind " + text, x.status(), found ? -1000010 - want : statusOfScene);
        List<String> seen = Scene.seen(x);
        for (int i = 0; i < seen.size(); i++) {
            if (!seen.get(i).equals(untouched.get(i))) {
                DUE.is(text + " changes " + untouched.get(i) + " to " + seen.get(i), false);
                break;
            }
        }
        DUE.is("all is seen behind " + text, seen.size(), untouched.size());
    }

    private static int[] with(int[] numbers, int at, int v) {
        int[] changed = numbers.clone();
        changed[at] = v;
        return changed;
    }

    /** Number at of a call is BAD beyond least and most. */
    private static void beyond(int at, int least, int most, String name, int... numbers)
            throws ReflectiveOperationException {
        for (int v : new int[] {least - 1, most + 1, MIN, MAX}) {
            refuses(BAD, name, with(numbers, at, v));
        }
    }

    /** Number at of a call is BAD beyond least and most, and not at them. */
    private static void range(int at, int least, int most, String name, int... numbers)
            throws ReflectiveOperationException {
        beyond(at, least, most, name, numbers);
        for (int v : new int[] {least, most}) {
            int[] good = with(numbers, at, v);
            long answer = call(scene.get(), name, good);
            DUE.is(text(name, good) + " answered " + answer + ", no refusal", answer > StairTunes.BAD || answer < STORE);
        }
    }

    private static void rows() throws ReflectiveOperationException {
        DUE.sentence("Promise 2, row: BAD: ROW");
        range(0, 0, 7, "row", 0, 0, 1);
        DUE.sentence("Promise 2, row: BAD: LANE");
        range(1, 0, 2, "row", 0, 0, 1);
        DUE.sentence("Promise 2, row: BAD: n above 40");
        refuses(BAD, "row", 0, 0, 41);
        refuses(BAD, "row", 4, 2, MAX);
        DUE.sentence("Promise 2, row: SIZE (fewer than none)");
        refuses(SIZE, "row", 0, 0, -1);
        refuses(SIZE, "row", 4, 2, MIN);
        DUE.sentence("Promise 2, row: BAD is ahead of SIZE");
        refuses(BAD, "row", 8, 0, -1);
        refuses(BAD, "row", 0, 3, -1);

        DUE.sentence("Promise 3, set: BAD: ROW");
        beyond(0, 0, 7, "set", 0, 0, 1);
        DUE.sentence("Promise 3, set: NULL (a ROW that is missing)");
        for (int row = 4; row < 8; row++) {
            refuses(NULL, "set", row, 0, 1);
        }
        DUE.sentence("Promise 3, set: NULL is ahead of PLACE");
        refuses(NULL, "set", 4, -1, 1);
        refuses(NULL, "set", 7, 40, 1);
        DUE.sentence("Promise 3, set: PLACE (no such place of a ROW)");
        int[] sizes = {5, 3, 12, 0};
        for (int row = 0; row < 4; row++) {
            for (int i : new int[] {-1, sizes[row], 40, MIN, MAX}) {
                refuses(PLACE, "set", row, i, 1);
            }
        }

        DUE.sentence("Promise 5, drop: BAD");
        beyond(0, 0, 7, "drop", 0);
        DUE.sentence("Promise 5, drop: NULL");
        for (int row = 4; row < 8; row++) {
            refuses(NULL, "drop", row);
        }
    }

    private static void copies() throws ReflectiveOperationException {
        DUE.sentence("Promise 4, copy: BAD: ROWS");
        for (int row : new int[] {-1, 8, MIN, MAX}) {
            refuses(BAD, "copy", row, 0, 0, 0, 1);
            refuses(BAD, "copy", 0, 0, row, 0, 1);
        }
        DUE.sentence("Promise 4, copy: BAD is ahead of NULL");
        refuses(BAD, "copy", 4, 0, 8, 0, 1);
        refuses(BAD, "copy", -1, 0, 4, 0, 1);
        DUE.sentence("Promise 4, copy: NULL");
        refuses(NULL, "copy", 4, 0, 0, 0, 1);
        refuses(NULL, "copy", 0, 0, 7, 0, 1);
        refuses(NULL, "copy", 4, 0, 4, 0, 0);
        DUE.sentence("Promise 4, copy: NULL is ahead of STORE and PLACE");
        refuses(NULL, "copy", 0, -1, 4, 0, 1);
        refuses(NULL, "copy", 4, 0, 1, 0, -1);
        DUE.sentence("Promise 4, copy: STORE (ROWS of two LANES)");
        refuses(STORE, "copy", 0, 0, 1, 0, 1);
        refuses(STORE, "copy", 2, 0, 0, 0, 1);
        refuses(STORE, "copy", 1, 0, 3, 0, 0);
        DUE.sentence("Promise 4, copy: STORE is ahead of PLACE");
        refuses(STORE, "copy", 0, -1, 1, 0, 1);
        refuses(STORE, "copy", 0, 0, 1, 0, -1);
        refuses(STORE, "copy", 0, 0, 3, 9, 1);
        DUE.sentence("Promise 4, copy: PLACE (i below 0)");
        refuses(PLACE, "copy", 2, -1, 2, 0, 1);
        refuses(PLACE, "copy", 2, -1, 2, 0, 0);
        refuses(PLACE, "copy", 2, MIN, 2, 0, 1);
        DUE.sentence("Promise 4, copy: PLACE (j below 0)");
        refuses(PLACE, "copy", 2, 0, 2, -1, 1);
        refuses(PLACE, "copy", 2, 0, 2, -1, 0);
        refuses(PLACE, "copy", 2, 0, 2, MIN, 1);
        DUE.sentence("Promise 4, copy: PLACE (n below 0)");
        refuses(PLACE, "copy", 2, 0, 2, 0, -1);
        refuses(PLACE, "copy", 2, 5, 2, 5, -1);
        refuses(PLACE, "copy", 2, 0, 2, 0, MIN);
        DUE.sentence("Promise 4, copy: PLACE (beyond an end)");
        refuses(PLACE, "copy", 2, 11, 2, 0, 2);
        refuses(PLACE, "copy", 2, 0, 2, 11, 2);
        refuses(PLACE, "copy", 2, 13, 2, 0, 0);
        refuses(PLACE, "copy", 2, 0, 2, 13, 0);
        refuses(PLACE, "copy", 2, 0, 2, 0, 13);
        refuses(PLACE, "copy", 2, 0, 3, 0, 1);
        refuses(PLACE, "copy", 3, 0, 2, 0, 1);
        DUE.sentence("Promise 4, copy: PLACE, also where i and n together wrap around");
        refuses(PLACE, "copy", 2, MAX, 2, 0, MAX);
        refuses(PLACE, "copy", 2, 0, 2, MAX, 1);
        refuses(PLACE, "copy", 2, 2, 2, 0, MAX);
        refuses(PLACE, "copy", 2, MIN, 2, MIN, MIN);
    }

    private static void told() throws ReflectiveOperationException {
        DUE.sentence("Promise 6, feed: BAD (0 to 255)");
        range(0, 0, 255, "feed", 0);
        DUE.sentence("Promise 33, image: BAD (0, 1)");
        range(0, 0, 1, "image", 0);
        DUE.sentence("Promise 34, restore: BAD (0, 1)");
        beyond(0, 0, 1, "restore", 0);
        DUE.sentence("Promise 34, restore: STATE: none was kept");
        refuses(STATE, "restore", 1);
    }

    private static void done() throws ReflectiveOperationException {
        DUE.sentence("Promise 10, days: BAD (1 to 24)");
        range(0, 1, 24, "days", 1);
        DUE.sentence("Promise 11, plane: BAD (TREADS 0 .. 5 are there)");
        range(0, 0, 5, "plane", 0, 0);
        DUE.sentence("Promise 11, plane: BAD (NOTE 0 to 9)");
        range(1, 0, 9, "plane", 0, 0);
        DUE.sentence("Promise 12, reach: BAD (0 to 9)");
        range(0, 0, 9, "reach", 0);
        DUE.sentence("Promise 13, way: BAD (WALKERS 0 .. 2 are there)");
        range(0, 0, 2, "way", 0, 0, 0);
        DUE.sentence("Promise 13, way: BAD (FROM is no TREAD)");
        range(1, 0, 5, "way", 0, 0, 0);
        DUE.sentence("Promise 13, way: BAD (TO is no TREAD)");
        range(2, 0, 5, "way", 0, 0, 0);
        DUE.sentence("Promise 14, gait: BAD (WALKER)");
        range(0, 0, 2, "gait", 0, 1, 0);
        DUE.sentence("Promise 14, gait: BAD (STEP 1 to 3)");
        range(1, 1, 3, "gait", 0, 1, 0);
        DUE.sentence("Promise 14, gait: BAD (START 0 to 20)");
        range(2, 0, 20, "gait", 0, 1, 0);
    }

    private static void seenNow() throws ReflectiveOperationException {
        DUE.sentence("Promise 15, tread: BAD (TREAD)");
        range(0, 0, 5, "tread", 0, 0);
        DUE.sentence("Promise 15, tread: BAD (what 0 to 3)");
        range(1, 0, 3, "tread", 0, 0);
        DUE.sentence("Promise 16, walker: BAD (WALKER)");
        range(0, 0, 2, "walker", 0, 0);
        DUE.sentence("Promise 16, walker: BAD (what 0 to 3)");
        range(1, 0, 3, "walker", 0, 0);
        DUE.sentence("Promise 17, tune: BAD (WALKER)");
        range(0, 0, 2, "tune", 0, 0);
        DUE.sentence("Promise 17, tune: BAD: k below 0, too");
        refuses(BAD, "tune", 0, -1);
        refuses(BAD, "tune", 0, MIN);
        DUE.sentence("Promise 18, where: BAD (WALKER)");
        range(0, 0, 2, "where", 0, 0);
        DUE.sentence("Promise 18, where: BAD (MINUTE 0 to 29)");
        range(1, 0, 29, "where", 0, 0);
        DUE.sentence("Promise 19, heard: BAD (TREAD)");
        range(0, 0, 5, "heard", 0, 0);
        DUE.sentence("Promise 19, heard: BAD (MINUTE 0 to 29)");
        range(1, 0, 29, "heard", 0, 0);
    }

    private static void foretold() throws ReflectiveOperationException {
        DUE.sentence("Promise 20, ahead: BAD (TREAD)");
        range(0, 0, 5, "ahead", 0, 0, 0);
        DUE.sentence("Promise 20, ahead: BAD (n 0 to 60)");
        range(1, 0, 60, "ahead", 0, 0, 0);
        DUE.sentence("Promise 20, ahead: BAD (what 0, 1)");
        range(2, 0, 1, "ahead", 0, 0, 0);
        DUE.sentence("Promise 21, length: BAD (WALKER)");
        range(0, 0, 2, "length", 0);
        DUE.sentence("Promise 22, meet: BAD (WALKER)");
        range(0, 0, 1, "meet", 0, 2);
        range(1, 1, 2, "meet", 0, 1);
        beyond(0, 0, 2, "meet", 0, 1);
        beyond(1, 0, 2, "meet", 0, 1);
        DUE.sentence("Promise 22, meet: BAD: alike, too");
        for (int w = 0; w < 3; w++) {
            refuses(BAD, "meet", w, w);
        }
        DUE.sentence("Promise 23, choir: BAD (what 0, 1)");
        range(0, 0, 1, "choir", 0);
        DUE.sentence("Promise 24, twins: BAD (what 0, 1)");
        range(0, 0, 1, "twins", 0);
        DUE.sentence("Promise 25, felt: BAD (WALKER)");
        range(0, 0, 2, "felt", 0, 0, 0);
        DUE.sentence("Promise 25, felt: BAD (TREAD)");
        range(1, 0, 5, "felt", 0, 0, 0);
        DUE.sentence("Promise 25, felt: BAD (what 0, 1)");
        range(2, 0, 1, "felt", 0, 0, 0);
        DUE.sentence("Promise 26, doors: BAD (what 0, 1)");
        range(0, 0, 1, "doors", 0);
        DUE.sentence("Promise 27, planed: BAD (what 0, 1)");
        range(0, 0, 1, "planed", 0);
        DUE.sentence("Promise 28, rise: BAD (WALKER)");
        range(0, 0, 2, "rise", 0, 0, 1, 0);
        DUE.sentence("Promise 28, rise: BAD (TREAD)");
        range(1, 0, 5, "rise", 0, 0, 1, 0);
        DUE.sentence("Promise 28, rise: BAD (n 1 to 9)");
        range(2, 1, 9, "rise", 0, 0, 1, 0);
        DUE.sentence("Promise 28, rise: BAD (what 0, 1)");
        range(3, 0, 1, "rise", 0, 0, 1, 0);
    }

    private static void foretoldByRows() throws ReflectiveOperationException {
        String[] names = {"what", "who"};
        int[] ones = {5, 2};
        int[] kindsOfAnswer = {1, 3};
        for (int k = 0; k < 2; k++) {
            String promise = "Promise " + (29 + k) + ", " + names[k] + ": ";
            DUE.sentence(promise + "BAD: the TREAD, or the WALKER");
            range(0, 0, ones[k], names[k], 0, 0, 0, 0, 2, 0, 1);
            DUE.sentence(promise + "BAD: which");
            range(1, 0, kindsOfAnswer[k], names[k], 0, 0, 0, 0, 2, 0, 1);
            DUE.sentence(promise + "BAD: DOOR");
            range(2, 0, 5, names[k], 0, 0, 0, 0, 2, 0, 1);
            DUE.sentence(promise + "BAD: MINUTE (0 to 29)");
            range(3, 0, 29, names[k], 0, 0, 0, 0, 2, 0, 1);
            DUE.sentence(promise + "BAD: ROW");
            beyond(4, 0, 7, names[k], 0, 0, 0, 0, 2, 0, 1);
            DUE.sentence(promise + "BAD: n (1 to 12)");
            range(6, 1, 12, names[k], 0, 0, 0, 0, 2, 0, 1);
            DUE.sentence(promise + "NULL");
            refuses(NULL, names[k], 0, 0, 0, 0, 4, 0, 1);
            refuses(NULL, names[k], 0, 0, 0, 0, 7, 0, 12);
            DUE.sentence(promise + "BAD is ahead of NULL and PLACE");
            refuses(BAD, names[k], 0, 0, 0, 0, 4, 0, 0);
            refuses(BAD, names[k], 0, 0, 0, 30, 4, 0, 1);
            refuses(BAD, names[k], 0, 0, 0, 0, 2, 0, 13);
            refuses(BAD, names[k], 0, 0, 6, 0, 2, -1, 1);
            DUE.sentence(promise + "NULL is ahead of PLACE");
            refuses(NULL, names[k], 0, 0, 0, 0, 4, -1, 1);
            DUE.sentence(promise + "PLACE (i below 0, or n ITEMS from i on beyond the end)");
            refuses(PLACE, names[k], 0, 0, 0, 0, 2, -1, 1);
            refuses(PLACE, names[k], 0, 0, 0, 0, 2, 12, 1);
            refuses(PLACE, names[k], 0, 0, 0, 0, 2, 1, 12);
            refuses(PLACE, names[k], 0, 0, 0, 0, 0, 0, 6);
            refuses(PLACE, names[k], 0, 0, 0, 0, 3, 0, 1);
            refuses(PLACE, names[k], 0, 0, 0, 0, 2, MIN, 12);
            DUE.sentence(promise + "PLACE, also where i and n together wrap around");
            refuses(PLACE, names[k], 0, 0, 0, 0, 2, MAX, 12);
        }
    }

    private static void foretoldByChance() throws ReflectiveOperationException {
        DUE.sentence("Promise 31, rots: BAD (WALKER)");
        range(0, 0, 2, "rots", 0, 0, 0, 0);
        DUE.sentence("Promise 31, rots: BAD (TREAD)");
        range(1, 0, 5, "rots", 0, 0, 0, 0);
        DUE.sentence("Promise 31, rots: BAD (p 0 to 10)");
        range(2, 0, 10, "rots", 0, 0, 0, 0);
        DUE.sentence("Promise 31, rots: BAD (what 0, 1)");
        range(3, 0, 1, "rots", 0, 0, 0, 0);
        DUE.sentence("Promise 32, drawn: BAD (n 0 to 60)");
        range(0, 0, 60, "drawn", 0, 1, 0);
        DUE.sentence("Promise 32, drawn: BAD (SEED 1 to 999999)");
        range(1, 1, 999999, "drawn", 1, 1, 0);
        DUE.sentence("Promise 32, drawn: BAD (what 0, 1)");
        range(2, 0, 1, "drawn", 1, 1, 0);
    }

    private static void asked() throws ReflectiveOperationException {
        DUE.sentence("Promise 35, kind: BAD");
        range(0, 0, 5, "kind", 0);
        DUE.sentence("Promise 36, as: BAD (TREAD)");
        range(0, 0, 5, "as", 0, 0);
        DUE.sentence("Promise 36, as: BAD (KIND 0 .. 5)");
        beyond(1, 0, 5, "as", 0, 0);
        DUE.sentence("Promise 36, as: KIND: it is no such one");
        refuses(KIND, "as", 0, 2);
        refuses(KIND, "as", 3, 5);
        refuses(KIND, "as", 4, 1);
        DUE.sentence("Promise 37, ask: BAD (TREAD); where that is refused THE TRACE stays");
        range(0, 0, 5, "ask", 0, 0);
        DUE.sentence("Promise 37, ask: BAD (an ASK 0, 1); where that is refused THE TRACE stays");
        range(1, 0, 1, "ask", 0, 0);
        DUE.sentence("Promise 38, trace: NONE, never BAD");
        for (int i : new int[] {-1, 5, 15, 16, MIN, MAX}) {
            refuses(StairTunes.NONE, "trace", i);
        }
        DUE.sentence("Promise 39, count: BAD (0 to 7)");
        range(0, 0, 7, "count", 0);
    }

    /** There are no TREADS and WALKERS: BAD. Where the document tells STATE: no TOWN, that. */
    private static void withoutATown() throws ReflectiveOperationException {
        DUE.sentence("Promise 1: No TOWN: there is no TREAD, no WALKER: BAD");
        String[] names = {"plane", "way", "gait", "tread", "walker", "tune", "where", "heard", "ahead", "length",
            "meet", "felt", "rise", "rots", "kind", "as", "ask", "what", "who"};
        int[][] numbers = {{0, 0}, {0, 0, 0}, {0, 1, 0}, {0, 0}, {0, 0}, {0, 0}, {0, 0}, {0, 0}, {0, 0, 0}, {0},
            {0, 1}, {0, 0, 0}, {0, 0, 1, 0}, {0, 0, 0, 0}, {0}, {0, 0}, {0, 0}, {0, 0, 0, 0, 0, 0, 1},
            {0, 0, 0, 0, 0, 0, 1}};
        for (int k = 0; k < names.length; k++) {
            refuses(BAD, names[k], numbers[k]);
        }
        String[] stated = {"days", "reach", "choir", "twins", "doors", "planed"};
        for (String name : stated) {
            DUE.sentence("STATE: no TOWN, " + name);
            refuses(STATE, name, 1);
            DUE.sentence("STATE: no TOWN (ahead of BAD), " + name);
            refuses(STATE, name, -1);
            refuses(STATE, name, 25);
        }
        DUE.sentence("Promise 32: STATE: no TOWN, drawn");
        refuses(STATE, "drawn", 1, 1, 0);
        DUE.sentence("Promise 32: STATE: no TOWN (ahead of BAD), drawn");
        refuses(STATE, "drawn", 61, 1, 0);
        refuses(STATE, "drawn", 1, 0, 0);
        refuses(STATE, "drawn", 1, 1, 2);
        DUE.sentence("Promise 33, image: STATE: no TOWN");
        refuses(STATE, "image", 0);
        refuses(STATE, "image", 1);
        DUE.sentence("Promise 33, image: BAD is ahead of STATE");
        refuses(BAD, "image", -1);
        refuses(BAD, "image", 2);
        DUE.sentence("Promise 34, restore: STATE: none was kept");
        refuses(STATE, "restore", 0);
        refuses(STATE, "restore", 1);
        DUE.sentence("Promise 34, restore: BAD is ahead of STATE");
        refuses(BAD, "restore", -1);
        refuses(BAD, "restore", 2);
        DUE.sentence("Promise 9, undo: STATE: none");
        refuses(STATE, "undo");
    }

    private static void findingsWithoutATown() throws ReflectiveOperationException {
        DUE.sentence("ROWS need no TOWN");
        refuses(SIZE, "row", 0, 0, -1);
        refuses(NULL, "set", 4, 0, 0);
        refuses(PLACE, "set", 0, 5, 0);
        refuses(STORE, "copy", 0, 0, 1, 0, 0);
        refuses(NULL, "drop", 4);
        DUE.sentence("Promises 29, 30: BAD is ahead of NULL and PLACE, without a TOWN, too");
        refuses(BAD, "what", 0, 0, 0, 0, 4, 0, 1);
        refuses(BAD, "who", 0, 0, 0, 0, 0, 5, 1);
    }

    private static void fullTape() throws ReflectiveOperationException {
        DUE.sentence("Promise 6, feed: FULL (at most 100 bytes)");
        refuses(FULL, "feed", 0);
        refuses(FULL, "feed", 't');
        refuses(FULL, "feed", 255);
        DUE.sentence("Promise 6, feed: BAD is ahead of FULL");
        refuses(BAD, "feed", -1);
        refuses(BAD, "feed", 256);
    }

    private static void late() throws ReflectiveOperationException {
        DUE.sentence("Promise 10, days: FULL: DAY would be above 999");
        refuses(FULL, "days", 10);
        refuses(FULL, "days", 24);
        DUE.is("days(9) to 999", Scene.late().days(9) > 0);
        DUE.sentence("Promise 10, days: BAD is ahead of FULL");
        refuses(BAD, "days", 25);
        refuses(BAD, "days", MAX);
        refuses(BAD, "days", 0);
    }
}
