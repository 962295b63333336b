import java.util.ArrayList;
import java.util.List;

/** Objects in which much stands, and all that can be seen of one: what a refused call must leave. */
final class Scene {
    /** TREADS 0 to 5 of every KIND, WALKERS 0 to 2. */
    static final String TOWN = "t5,1;p3;s7;l9;r4;f8;p0;z0,5,1,0;z5,0,2,1;z1,4,3,0;";
    private static final String NEXT_TOWN = "t9,3;l5;p1;z1,0,2,7;";
    /** ROWS 0 to 3 are there, of LANES 0, 1, 2, 2; 4 to 7 are missing. */
    private static final int[] SIZES = {5, 3, 12, 0};
    private static final int[] LANES = {0, 1, 2, 2};

    private Scene() {
    }

    /** No TOWN; no call was made. */
    static StairTunes fresh() {
        return new StairTunes();
    }

    /** No TOWN, but ROWS, a FAULT, a tape and a FINDING. */
    static StairTunes townless() {
        StairTunes x = new StairTunes();
        Due.tell(x, "t0,10;");
        layRows(x);
        Due.feed(x, NEXT_TOWN);
        x.set(0, 5, 0);
        return x;
    }

    /** A TOWN on DAY 4 with 8 ACTS, the first IMAGE of DAY 3, ROWS, a FAULT, a tape, a TRACE and a FINDING. */
    static StairTunes rich() {
        StairTunes x = new StairTunes();
        Due.tell(x, "t0,10;");
        Due.tell(x, TOWN);
        x.days(3);
        x.image(0);
        x.plane(1, 6);
        x.reach(2);
        x.way(2, 4, 1);
        x.gait(0, 2, 3);
        x.days(1);
        layRows(x);
        Due.feed(x, NEXT_TOWN);
        x.ask(4, 1);
        x.as(0, 4);
        return x;
    }

    /** As rich(), but 100 bytes are on the tape. */
    static StairTunes fullTape() {
        StairTunes x = rich();
        for (int bytes = x.count(7); bytes < 100; bytes++) {
            x.feed('z');
        }
        return x;
    }

    /** DAY 990. */
    static StairTunes late() {
        StairTunes x = Due.townOf(TOWN);
        for (int k = 0; k < 41; k++) {
            x.days(24);
        }
        x.days(6);
        layRows(x);
        Due.feed(x, NEXT_TOWN);
        return x;
    }

    private static void layRows(StairTunes x) {
        for (int row = 0; row < SIZES.length; row++) {
            x.row(row, LANES[row], SIZES[row]);
            for (int i = 0; i < SIZES[row]; i++) {
                x.set(row, i, Math.max(0, x.heard(0, i)));
            }
        }
    }

    /** All that can be seen of an object but status(); some 340 calls, after which it is another. */
    static List<String> seen(StairTunes x) {
        List<String> seen = new ArrayList<>();
        seen.add("fault: " + x.fault());
        for (int what = 0; what < 8; what++) {
            seen.add("count " + what + ": " + x.count(what));
        }
        for (int i = 0; i < 6; i++) {
            seen.add("trace " + i + ": " + x.trace(i));
        }
        seeTown("now", x, seen);
        seeRows(x, seen);
        seen.add("restore 1: " + x.restore(1));
        seePast(x, seen);
        int image = x.restore(0);
        seen.add("restore 0: " + image);
        seeTown("image", x, seen);
        seen.add("town: " + x.town());
        seen.add("fault then: " + x.fault());
        seeTown("told", x, seen);
        return seen;
    }

    private static void seeTown(String when, StairTunes x, List<String> seen) {
        for (int t = 0; t < 6; t++) {
            for (int what = 0; what < 3; what++) {
                seen.add(when + ", tread " + t + ", " + what + ": " + x.tread(t, what));
            }
            seen.add(when + ", kind " + t + ": " + x.kind(t));
        }
        for (int w = 0; w < 3; w++) {
            for (int what = 0; what < 4; what++) {
                seen.add(when + ", walker " + w + ", " + what + ": " + x.walker(w, what));
            }
        }
        for (int what = 1; what < 7; what++) {
            seen.add(when + ", count " + what + ": " + x.count(what));
        }
    }

    /** An ITEM is seen by what fits it; the size and the LANE by what can be set. */
    private static void seeRows(StairTunes x, List<String> seen) {
        for (int row = 0; row < 8; row++) {
            int size = row < SIZES.length ? SIZES[row] : 0;
            for (int i = 0; i < size; i++) {
                seen.add("item " + i + " of " + row + ": " + x.what(0, 0, 0, i, row, i, 1));
            }
            seen.add("behind row " + row + ": " + x.set(row, size, 1));
            seen.add("lane of row " + row + ": " + x.set(row, 0, 0x12345678));
        }
    }

    private static void seePast(StairTunes x, List<String> seen) {
        for (int k = 0; k < 9; k++) {
            seen.add("undo " + k + ": " + x.undo());
            seen.add("day " + k + ": " + x.count(3) + ", reach " + x.count(5) + ", note " + x.tread(1, 0));
            seen.add("from " + k + ": " + x.walker(2, 0) + ", start " + x.walker(0, 3) + ", worn " + x.tread(0, 1));
        }
    }
}
