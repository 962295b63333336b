/** Promises 35 to 39: KINDS, ASKS, THE TRACE, and how many there are. */
public final class AskedTest {
    private static final int NONE = StairTunes.NONE, BAD = StairTunes.BAD;
    private static final Due DUE = new Due();
    /** A tread of each KIND, and one more soft one; nobody steps on the rotten and the felted one. */
    private static final String TOWN = "t6,3;p3;s7;l9;r4;f8;s5;z0,0,1,0;z1,1,1,0;z2,2,1,0;z5,5,1,0;";

    public static void main(String[] args) {
        promise35Kind();
        promise36As();
        promise37Size();
        promise37Mark();
        promise38Trace();
        promise39Count();
        constants();
        DUE.end();
    }

    private static void promise35Kind() {
        StairTunes x = Due.townOf(TOWN);
        int[] kinds = {1, 2, 3, 4, 5, 2};
        for (int t = 0; t < 6; t++) {
            DUE.is("kind " + t, x.kind(t), kinds[t]);
        }
        DUE.is("no such tread", x.kind(6), BAD);
        DUE.is("tread below", x.kind(-1), BAD);
        DUE.is("no town", new StairTunes().kind(0), BAD);
    }

    private static void promise36As() {
        StairTunes x = Due.townOf(TOWN);
        // By tread 0 to 4, that are of KIND 1 to 5: the KINDS it is, as bits.
        int[] is = {3, 7, 11, 17, 49};
        for (int t = 0; t < 5; t++) {
            for (int kind = 0; kind < 6; kind++) {
                DUE.is("as " + t + ", " + kind, x.as(t, kind), (is[t] >> kind & 1) == 1 ? t : -1000013);
            }
        }
        DUE.is("kind above", x.as(0, 6), BAD);
        DUE.is("kind below", x.as(0, -1), BAD);
        DUE.is("no such tread", x.as(6, 0), BAD);
        DUE.is("no town", new StairTunes().as(0, 0), BAD);
    }

    private static void ask(StairTunes x, int one, int what, int answer, int... bodies) {
        DUE.is("ask " + one + ", " + what, x.ask(one, what), answer);
        for (int i = 0; i < bodies.length; i++) {
            DUE.is("trace " + i + " of " + one + ", " + what, x.trace(i), bodies[i]);
        }
        DUE.is("trace behind the end", x.trace(bodies.length), NONE);
    }

    private static void promise37Size() {
        StairTunes x = Due.townOf(TOWN);
        x.days(12);
        // NOTE is asked, not TONE: each but the rotten and felted ones is worn 12 times.
        ask(x, 0, 0, 3 + 0 + 12, 11, 10, 21, 20);
        ask(x, 1, 0, -(7 + 2 * (1 + 12)), 12, 11, 10, 24, 21, 20);
        ask(x, 2, 0, 9 + 2 + 12 - 1000, 11, 10, 22, 21, 20);
        ask(x, 3, 0, 4 - 100, 13, 10);
        ask(x, 4, 0, 2 * (8 - 100), 14, 13, 10);
        ask(x, 5, 0, -(5 + 2 * (5 + 12)), 12, 11, 10, 24, 21, 20);
    }

    private static void promise37Mark() {
        StairTunes x = Due.townOf(TOWN);
        x.days(12);
        ask(x, 0, 1, 12, 21, 20);
        ask(x, 1, 1, 2 * (1 + 12), 24, 21, 20);
        ask(x, 2, 1, 2 + 12 - 1000, 22, 21, 20);
        ask(x, 3, 1, 3 - (4 - 100), 23, 20, 13, 10);
        ask(x, 4, 1, 4 - 2 * (8 - 100), 23, 20, 14, 13, 10);
        DUE.is("what above", x.ask(0, 2), BAD);
        DUE.is("what below", x.ask(0, -1), BAD);
        DUE.is("no such tread", x.ask(6, 0), BAD);
        DUE.is("no town", new StairTunes().ask(0, 0), BAD);
    }

    private static void promise38Trace() {
        StairTunes x = Due.townOf(TOWN);
        x.ask(4, 0);
        x.ask(0, 2);
        x.ask(9, 0);
        DUE.is("stays where it is refused", x.trace(0), 14);
        DUE.is("second", x.trace(1), 13);
        DUE.is("below", x.trace(-1), NONE);
        DUE.is("above", x.trace(16), NONE);
        DUE.is("far above", x.trace(Integer.MAX_VALUE), NONE);
        x.ask(0, 1);
        DUE.is("anew", x.trace(0), 21);
        DUE.is("anew, behind its end", x.trace(2), NONE);
        x.kind(0);
        x.as(0, 4);
        DUE.is("stays behind other calls", x.trace(1), 20);
    }

    private static void promise39Count() {
        StairTunes x = Due.townOf(TOWN);
        x.row(0, 0, 1);
        x.row(5, 0, 1);
        x.feed('t');
        x.feed('t');
        x.feed('t');
        x.plane(0, 1);
        int[] counts = {2, 6, 4, 0, 0, 3, 1, 3};
        for (int what = 0; what < 8; what++) {
            DUE.is("count " + what, x.count(what), counts[what]);
        }
        DUE.is("above", x.count(8), BAD);
        DUE.is("below", x.count(-1), BAD);
        int[] wet = {0, 1, 1, 0, 0, 1, 1, 0};
        for (int day = 0; day < 8; day++) {
            DUE.is("day", x.count(3), day);
            DUE.is("wet on day " + day, x.count(4), wet[day]);
            x.days(1);
        }
    }

    private static void constants() {
        DUE.is("NONE", StairTunes.NONE, -1000000);
        DUE.is("BAD", StairTunes.BAD, -1000001);
        DUE.is("STATE", StairTunes.STATE, -1000002);
        DUE.is("FULL", StairTunes.FULL, -1000003);
    }
}
