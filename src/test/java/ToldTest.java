/** Promises 6 to 9: the tape, the TOWN that it tells, its FAULTS, and what is undone. */
public final class ToldTest {
    private static final Due DUE = new Due();
    private static final String GOOD = "t0,0;p0;z0,0,1,0;";

    public static void main(String[] args) {
        promise6Feed();
        promise7Town();
        promise7FaultsOfLaw();
        promise7FaultsOfTreads();
        promise7FaultsOfWalkers();
        promise7FaultKeepsTheTown();
        promise7TheTapeIsEmptyThen();
        promise8Fault();
        promise9Undo();
        promise9UndoOfEachAct();
        DUE.end();
    }

    private static void promise6Feed() {
        StairTunes x = new StairTunes();
        DUE.is("feed below", x.feed(-1), StairTunes.BAD);
        DUE.is("feed above", x.feed(256), StairTunes.BAD);
        DUE.is("feed 0", x.feed(0), 1);
        DUE.is("feed 255", x.feed(255), 2);
        for (int i = 3; i <= 100; i++) {
            DUE.is("feed", x.feed('a'), i);
        }
        DUE.is("feed one more", x.feed('a'), StairTunes.FULL);
        DUE.is("bad ahead of full", x.feed(256), StairTunes.BAD);
        DUE.is("bytes", x.count(7), 100);
        DUE.is("a faulty tape", x.town(), -1000100);
        DUE.is("empty then", x.count(7), 0);
        DUE.is("feed again", x.feed('t'), 1);
    }

    private static void promise7Town() {
        StairTunes x = new StairTunes();
        DUE.is("most", Due.tell(x, "t15,9;p0;s1;l2;r3;f4;p9;s8;l7;z0,7,1,0;z7,0,2,20;z3,3,3,5;z0,0,1,1;z6,2,03,09;"), 8);
        DUE.is("treads", x.count(1), 8);
        DUE.is("walkers", x.count(2), 5);
        DUE.is("reach", x.count(5), 9);
        DUE.is("bytes", x.count(7), 0);
        int[] kinds = {1, 2, 3, 4, 5, 1, 2, 3};
        int[] notes = {0, 1, 2, 3, 4, 9, 8, 7};
        for (int t = 0; t < 8; t++) {
            DUE.is("kind " + t, x.kind(t), kinds[t]);
            DUE.is("note " + t, x.tread(t, 0), notes[t]);
        }
        int[] parts = {0, 7, 1, 0, 7, 0, 2, 20, 3, 3, 3, 5, 0, 0, 1, 1, 6, 2, 3, 9};
        for (int k = 0; k < parts.length; k++) {
            DUE.is("part " + k, x.walker(k / 4, k % 4), parts[k]);
        }
        x.days(3);
        x.plane(0, 5);
        x.row(0, 0, 4);
        x.image(1);
        DUE.is("another", Due.tell(x, "t2,1;p4;z0,0,1,0;"), 1);
        DUE.is("day of another", x.count(3), 0);
        DUE.is("worn of another", x.tread(0, 1), 0);
        DUE.is("reach of another", x.count(5), 1);
        DUE.is("acts of another", x.count(6), 0);
        DUE.is("no undo into the one before", x.undo(), StairTunes.STATE);
        DUE.is("rows stay", x.count(0), 1);
        DUE.is("images stay", x.restore(1), 1);
        DUE.is("as kept", x.count(1), 8);
        DUE.is("day as kept", x.count(3), 3);
    }

    private static void fault(String tape, int place, int number) {
        StairTunes x = new StairTunes();
        DUE.is("place in " + tape, Due.tell(x, tape), -1000100 - place);
        DUE.is("fault of " + tape, x.fault(), number);
        DUE.is("no town of " + tape, x.count(1) + x.count(2) + x.count(7), 0);
    }

    private static void promise7FaultsOfLaw() {
        fault("", 0, 1);
        fault("x", 0, 1);
        fault("T", 0, 1);
        fault(" t", 0, 1);
        fault("t", 1, 1);
        fault("t,", 1, 1);
        fault("t16", 1, 2);
        fault("t016,0;", 1, 1);
        fault("t99x", 1, 2);
        fault("t0;", 2, 1);
        fault("t0", 2, 1);
        fault("t0,", 3, 1);
        fault("t0,10;", 3, 2);
        fault("t0,000;", 3, 1);
        fault("t0,0,", 4, 1);
        fault("t0,0;", 5, 1);
        fault("t 0,0;", 1, 1);
        fault("t/,0;", 1, 1);
        fault("t:,0;", 1, 1);
        fault("t-1,0;", 1, 1);
        fault("t1 ,0;", 2, 1);
    }

    private static void promise7FaultsOfTreads() {
        fault("t0,0;z0,0,1,0;", 5, 1);
        fault("t0,0;a1;", 5, 1);
        fault("t0,0;5;", 5, 1);
        fault("t0,0;p", 6, 1);
        fault("t0,0;p10;", 6, 2);
        fault("t0,0;p123;", 6, 1);
        fault("t0,0;p1", 7, 1);
        fault("t0,0;p1,", 7, 1);
        fault("t0,0;p1;t", 8, 1);
        fault("t0,0;p1;\u00e9", 8, 1);
        fault("t0,0;p1;s2;l3;r4;f5;p6;s7;l8;p9;z0,0,1,0;", 29, 3);
        fault("t0,0;p1;s2;l3;r4;f5;p6;s7;l8;r", 29, 3);
        fault("t0,0;p1;s2;l3;r4;f5;p6;s7;l8;", 29, 1);
        fault("t0,0;p1;s2;l3;r4;f5;p6;s7;l8;x", 29, 1);
    }

    private static void promise7FaultsOfWalkers() {
        fault("t0,0;p1;z", 9, 1);
        fault("t0,0;p1;p1;z2,0,1,0;", 12, 2);
        fault("t0,0;p1;z0;", 10, 1);
        fault("t0,0;p1;z0,1,", 11, 2);
        fault("t0,0;p1;z0,0,0,0;", 13, 2);
        fault("t0,0;p1;z0,0,4,0;", 13, 2);
        fault("t0,0;p1;z0,0,1,21;", 15, 2);
        fault("t0,0;p1;z0,0,1,0", 16, 1);
        fault("t0,0;p1;z0,0,1,0,", 16, 1);
        fault("t0,0;p1;z0,0,1,0;p1;", 17, 1);
        fault("t0,0;p1;z0,0,1,0;;", 17, 1);
        fault("t0,0;p1;z0,0,1,0;7", 17, 1);
        String five = "t0,0;p1;z0,0,1,0;z0,0,1,0;z0,0,1,0;z0,0,1,0;z0,0,1,0;";
        fault(five + "z0,0,1,0;", 53, 3);
        fault(five + "z", 53, 3);
        fault(five + "y", 53, 1);
    }

    private static void promise7FaultKeepsTheTown() {
        StairTunes x = Due.townOf("t5,2;p3;s7;z0,1,1,4;");
        x.days(2);
        DUE.is("a tape with a fault", Due.tell(x, "t0,0;p1;z0,0,1,0;z0,0,1,99;"), -1000124);
        DUE.is("treads stay", x.count(1), 2);
        DUE.is("walkers stay", x.count(2), 1);
        DUE.is("day stays", x.count(3), 2);
        DUE.is("reach stays", x.count(5), 2);
        DUE.is("acts stay", x.count(6), 2);
        DUE.is("note stays", x.tread(0, 0), 3);
        DUE.is("start stays", x.walker(0, 3), 4);
        DUE.is("undo yet", x.undo(), 1);
    }

    /** Bytes of the tape before must not be read on behind the end of a shorter one. */
    private static void promise7TheTapeIsEmptyThen() {
        String whole = "t0,0;p1;z0,0,1,0;";
        for (int end = 0; end < whole.length(); end++) {
            StairTunes x = Due.townOf(whole);
            DUE.is("cut at " + end, Due.tell(x, whole.substring(0, end)), -1000100 - end);
            DUE.is("fault of the cut at " + end, x.fault(), 1);
        }
        StairTunes x = Due.townOf(whole + "z0,0,1,0;");
        DUE.is("whole, but shorter", Due.tell(x, whole), 1);
        DUE.is("one walker", x.count(2), 1);
        DUE.is("a number, no figures behind it", Due.tell(x, "t0"), -1000102);
        DUE.is("two figures, then one", Due.tell(x, "t15,9;p1;z0,0,1,20;"), 1);
        DUE.is("one figure at the end", Due.tell(x, "t1"), -1000102);
    }

    private static void promise8Fault() {
        StairTunes x = new StairTunes();
        DUE.is("none yet", x.fault(), 0);
        DUE.is("good", Due.tell(x, GOOD), 1);
        DUE.is("none after a good one", x.fault(), 0);
        Due.tell(x, "t0,10;");
        DUE.is("of a number", x.fault(), 2);
        Due.tell(x, GOOD);
        DUE.is("stays behind a good one", x.fault(), 2);
        Due.tell(x, "");
        DUE.is("of the end", x.fault(), 1);
    }

    private static void promise9Undo() {
        StairTunes x = Due.townOf(GOOD);
        DUE.is("none", x.undo(), StairTunes.STATE);
        x.days(24);
        x.days(6);
        DUE.is("most acts", x.count(6), 24);
        for (int left = 23; left >= 0; left--) {
            DUE.is("undo", x.undo(), left);
        }
        DUE.is("no more", x.undo(), StairTunes.STATE);
        DUE.is("the oldest are forgotten", x.count(3), 6);
        x.reach(0);
        DUE.is("also such by which nothing becomes another", x.count(6), 1);
        x.reach(10);
        x.plane(1, 0);
        DUE.is("what is refused is none", x.count(6), 1);
        x.plane(0, 7);
        DUE.is("undo plane", x.undo(), 1);
        DUE.is("note as it was", x.tread(0, 0), 0);
        DUE.is("undo reach", x.undo(), 0);
    }

    private static void promise9UndoOfEachAct() {
        StairTunes x = Due.townOf("t1,2;p9;s7;l5;z0,2,1,3;");
        x.days(11);
        x.plane(0, 4);
        x.reach(5);
        x.way(0, 1, 1);
        x.gait(0, 3, 17);
        DUE.is("acts", x.count(6), 15);
        DUE.is("undo gait", x.undo(), 14);
        DUE.is("step", x.walker(0, 2), 1);
        DUE.is("start", x.walker(0, 3), 3);
        DUE.is("from stays", x.walker(0, 0), 1);
        DUE.is("undo way", x.undo(), 13);
        DUE.is("from", x.walker(0, 0), 2);
        DUE.is("to", x.walker(0, 1), 0);
        DUE.is("reach stays", x.count(5), 5);
        DUE.is("undo reach", x.undo(), 12);
        DUE.is("reach", x.count(5), 2);
        DUE.is("undo plane", x.undo(), 11);
        DUE.is("note", x.tread(0, 0), 9);
        DUE.is("worn", x.tread(0, 1), 11);
        DUE.is("undo a day", x.undo(), 10);
        DUE.is("worn a day less", x.tread(0, 1), 10);
        DUE.is("from a day less", x.walker(0, 0), 0);
        DUE.is("day", x.count(3), 10);
    }
}
