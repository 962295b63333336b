/** Promises 35 to 39, sentence by sentence: KINDS, ASKS, THE TRACE and how many there are, at their edges. */
public final class AskedEdgeTest {
    private static final int NONE = StairTunes.NONE, KIND = -1000013;
    /** By KIND 1 to 5, from below up; nobody steps on the last two. */
    private static final String KINDS = "t6,3;p3;s7;l9;r4;f8;z0,0,1,0;z1,1,1,0;z2,2,1,0;";
    private static final Due DUE = new Due();

    public static void main(String[] args) {
        promise35();
        promise36();
        promise37Size();
        promise37Mark();
        promise37OfNothingElse();
        promise38();
        promise38Empty();
        promise39();
        promise39Rows();
        DUE.end();
    }

    private static void promise35() {
        StairTunes x = Due.townOf("t0,0;p0;s0;l0;r0;f0;r0;l0;s0;z0,0,1,0;");
        DUE.sentence("Promise 35: The KIND of a TREAD, as told (1 to 5), of the first and the last");
        int[] kinds = {1, 2, 3, 4, 5, 4, 3, 2};
        for (int t = 0; t < 8; t++) {
            DUE.is("kind(" + t + ")", x.kind(t), kinds[t]);
        }
        DUE.sentence("Promise 35: as told, though it is planed, worn, and asked as another");
        x.plane(4, 9);
        x.days(24);
        x.as(4, 4);
        x.felt(0, 0, 0);
        for (int t = 0; t < 8; t++) {
            DUE.is("kind(" + t + ")", x.kind(t), kinds[t]);
        }
    }

    private static void promise36() {
        StairTunes x = Due.townOf(KINDS);
        String[] names = {"TREAD", "PLAIN", "SOFT", "LOOSE", "ROTTEN", "FELTED"};
        boolean[][] is = {
            {true, true, false, false, false, false},
            {true, true, true, false, false, false},
            {true, true, false, true, false, false},
            {true, false, false, false, true, false},
            {true, false, false, false, true, true}};
        for (int t = 0; t < 5; t++) {
            for (int kind = 0; kind < 6; kind++) {
                DUE.sentence("Promise 36: a " + names[t + 1] + " taken as " + names[kind]);
                x.as(0, 5);
                DUE.is("as", x.as(t, kind), is[t][kind] ? t : KIND);
                DUE.is("status", x.status(), is[t][kind] ? 0 : 3);
            }
        }
        DUE.sentence("Promise 36: the TREAD's number, 7, too");
        x = Due.townOf("t0,0;p0;p0;p0;p0;p0;p0;p0;f0;z0,0,1,0;");
        DUE.is("as(7, 0)", x.as(7, 0), 7);
        DUE.is("as(7, 5)", x.as(7, 5), 7);
        DUE.sentence("Promise 36: it stays of its KIND");
        x.as(7, 0);
        DUE.is("kind", x.kind(7), 5);
        DUE.is("as(7, 5)", x.as(7, 5), 7);
    }

    private static void asked(StairTunes x, int one, int what, int answer, int... bodies) {
        DUE.is("ask(" + one + ", " + what + ")", x.ask(one, what), answer);
        for (int i = 0; i < bodies.length; i++) {
            DUE.is("trace(" + i + ") of " + one + ", " + what, x.trace(i), bodies[i]);
        }
        for (int i = bodies.length; i < 18; i++) {
            DUE.is("trace(" + i + ") of " + one + ", " + what, x.trace(i), NONE);
        }
    }

    private static void promise37Size() {
        StairTunes x = Due.townOf(KINDS);
        DUE.sentence("SIZE of a PLAIN one: 11: what 10 gives, and MARK (21, 20)");
        asked(x, 0, 0, 3, 11, 10, 21, 20);
        DUE.sentence("SIZE of a SOFT one: 12: 0 less what 11 gives, MARK of it (24, 21, 20)");
        asked(x, 1, 0, -9, 12, 11, 10, 24, 21, 20);
        DUE.sentence("SIZE of a LOOSE one: 11, that of the nearest KIND that it is, MARK of it (22, 21, 20)");
        asked(x, 2, 0, 9 + 2 - 1000, 11, 10, 22, 21, 20);
        DUE.sentence("SIZE of a ROTTEN one: 13: what 10 gives, less 100");
        asked(x, 3, 0, -96, 13, 10);
        DUE.sentence("SIZE of a FELTED one: 14: twice what 13 gives (asked once)");
        asked(x, 4, 0, -184, 14, 13, 10);
        DUE.sentence("SIZE: NOTE, not TONE; and how often WORN");
        x.days(24);
        asked(x, 0, 0, 3 + 0 + 24, 11, 10, 21, 20);
        asked(x, 1, 0, -(7 + 2 * (1 + 24)), 12, 11, 10, 24, 21, 20);
        asked(x, 2, 0, 9 + 2 + 24 - 1000, 11, 10, 22, 21, 20);
    }

    private static void promise37Mark() {
        StairTunes x = Due.townOf(KINDS);
        DUE.sentence("MARK of a PLAIN one: 21: the number (20), and how often WORN");
        asked(x, 0, 1, 0, 21, 20);
        DUE.sentence("MARK of a SOFT one: 24: twice what 21 gives (asked once)");
        asked(x, 1, 1, 2, 24, 21, 20);
        DUE.sentence("MARK of a LOOSE one: 22: what 21 gives, less 1000");
        asked(x, 2, 1, -998, 22, 21, 20);
        DUE.sentence("MARK of a ROTTEN one: 23: what 20 gives, less SIZE (13, 10)");
        asked(x, 3, 1, 3 + 96, 23, 20, 13, 10);
        DUE.sentence("MARK of a FELTED one: 23, that of the nearest KIND that it is, SIZE of it (14, 13, 10)");
        asked(x, 4, 1, 4 + 184, 23, 20, 14, 13, 10);
        DUE.sentence("MARK: how often WORN, 99 at most");
        for (int k = 0; k < 5; k++) {
            x.days(24);
        }
        asked(x, 0, 1, 99, 21, 20);
        asked(x, 1, 1, 200, 24, 21, 20);
        asked(x, 2, 1, 101 - 1000, 22, 21, 20);
    }

    private static void promise37OfNothingElse() {
        DUE.sentence("MARK of a rotten or a felted one: how often WORN does not matter");
        StairTunes x = Due.townOf("t0,0;r9;f9;z0,1,1,0;");
        x.days(24);
        asked(x, 0, 1, 0 - (9 - 100), 23, 20, 13, 10);
        asked(x, 1, 1, 1 - 2 * (9 - 100), 23, 20, 14, 13, 10);
        DUE.sentence("SIZE by NOTE 0 and 9, MARK by number 7");
        x = Due.townOf("t0,0;p0;p0;p0;p0;p0;p0;r0;s9;z0,0,1,0;");
        asked(x, 6, 0, -100, 13, 10);
        asked(x, 7, 0, -(9 + 14), 12, 11, 10, 24, 21, 20);
        DUE.sentence("ASKS: on a wet DAY as on a dry one");
        StairTunes wet = Due.townOf("t15,0;s9;z0,0,1,0;");
        asked(wet, 0, 0, -9, 12, 11, 10, 24, 21, 20);
    }

    private static void promise38() {
        StairTunes x = Due.townOf(KINDS);
        DUE.sentence("Promise 38: NONE: no ASK yet");
        for (int i : new int[] {-1, 0, 1, 15, 16}) {
            DUE.is("trace(" + i + ")", x.trace(i), NONE);
        }
        DUE.sentence("Promise 38: Number i of THE TRACE (the first 16): from 0 to the last");
        x.ask(1, 0);
        int[] bodies = {12, 11, 10, 24, 21, 20};
        for (int i = 0; i < 6; i++) {
            DUE.is("trace(" + i + ")", x.trace(i), bodies[i]);
        }
        DUE.sentence("Promise 38: NONE: beyond its ends");
        for (int i : new int[] {-1, 6, 15, 16, 17, Integer.MIN_VALUE, Integer.MAX_VALUE}) {
            DUE.is("trace(" + i + ")", x.trace(i), NONE);
        }
        DUE.sentence("Promise 38: a shorter TRACE behind a longer one");
        x.ask(0, 1);
        DUE.is("trace(1)", x.trace(1), 20);
        DUE.is("trace(2)", x.trace(2), NONE);
        DUE.sentence("Promise 38: asked many times it is one TRACE each");
        for (int k = 0; k < 20; k++) {
            x.ask(1, 0);
        }
        DUE.is("trace(5)", x.trace(5), 20);
        DUE.is("trace(6)", x.trace(6), NONE);
    }

    private static void promise38Empty() {
        StairTunes x = Due.townOf(KINDS);
        DUE.sentence("Promise 37: where it is refused THE TRACE stays");
        x.ask(4, 0);
        x.ask(5, 0);
        x.ask(-1, 0);
        x.ask(0, 2);
        x.ask(0, -1);
        DUE.is("trace(0)", x.trace(0), 14);
        DUE.is("trace(2)", x.trace(2), 10);
        DUE.sentence("THE TRACE stays behind other calls, kind() and as(), too");
        x.kind(0);
        x.as(0, 0);
        x.as(0, 5);
        x.days(1);
        x.undo();
        x.image(0);
        x.restore(0);
        DUE.is("trace(0)", x.trace(0), 14);
        DUE.is("trace(3)", x.trace(3), NONE);
        DUE.sentence("THE TRACE stays behind a TOWN that is read");
        Due.tell(x, "t0,0;p0;z0,0,1,0;");
        DUE.is("trace(0)", x.trace(0), 14);
        DUE.sentence("Promise 37: THE TRACE is empty ahead of it");
        x.ask(0, 1);
        DUE.is("trace(0)", x.trace(0), 21);
        DUE.is("trace(2)", x.trace(2), NONE);
    }

    private static void promise39() {
        DUE.sentence("Promise 39: without a TOWN 0 each");
        StairTunes x = new StairTunes();
        for (int what = 0; what < 8; what++) {
            DUE.is("count(" + what + ")", x.count(what), 0);
        }
        DUE.sentence("Promise 39: 1 TREADS, 2 WALKERS: 8 and 5, the most");
        Due.tell(x, "t15,9;p0;p0;p0;p0;p0;p0;p0;p0;z0,0,1,0;z0,0,1,0;z0,0,1,0;z0,0,1,0;z0,0,1,0;");
        DUE.is("count(1)", x.count(1), 8);
        DUE.is("count(2)", x.count(2), 5);
        DUE.sentence("Promise 39: 5 REACH, 4 whether it is wet");
        DUE.is("count(5)", x.count(5), 9);
        DUE.is("count(4)", x.count(4), 1);
        DUE.sentence("Promise 39: 3 DAY, 999 at most; 6 ACTS that can be undone, 24 at most");
        for (int k = 0; k < 41; k++) {
            x.days(24);
        }
        x.days(15);
        DUE.is("count(3)", x.count(3), 999);
        DUE.is("count(6)", x.count(6), 24);
        DUE.sentence("Promise 39: 7 bytes on the tape, 100 at most");
        for (int k = 0; k < 100; k++) {
            DUE.is("count(7)", x.count(7), k);
            x.feed(255);
        }
        x.feed(255);
        DUE.is("count(7)", x.count(7), 100);
        DUE.sentence("Promise 39: DAY and whether it is wet by what is undone, and restored");
        Due.tell(x, "");
        Due.tell(x, "t2,0;p0;z0,0,1,0;");
        DUE.is("dry", x.count(4), 0);
        x.image(0);
        x.days(1);
        DUE.is("wet", x.count(4), 1);
        x.undo();
        DUE.is("day", x.count(3), 0);
        DUE.is("dry", x.count(4), 0);
    }

    private static void promise39Rows() {
        StairTunes x = new StairTunes();
        DUE.sentence("Promise 39: 0 ROWS: 0 to 8, those of no ITEMS, too");
        for (int row = 0; row < 8; row++) {
            x.row(row, 0, row % 2);
            DUE.is("count(0)", x.count(0), row + 1);
        }
        DUE.sentence("Promise 39: 0 ROWS: one laid anew is one");
        x.row(0, 2, 40);
        DUE.is("count(0)", x.count(0), 8);
        DUE.sentence("Promise 39: 0 ROWS: one dropped is none");
        x.drop(1);
        DUE.is("count(0)", x.count(0), 7);
        x.drop(1);
        DUE.is("count(0)", x.count(0), 7);
    }
}
