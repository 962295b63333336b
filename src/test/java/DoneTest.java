/** Promises 10 to 19: DAYS, ACTS, TUNES, and what is HEARD. */
public final class DoneTest {
    static final String TOWN = "t5,1;p3;s7;l9;r4;f8;p0;z0,5,1,0;z5,0,2,1;z1,4,3,0;";
    private static final int NONE = StairTunes.NONE, BAD = StairTunes.BAD;
    private static final Due DUE = new Due();

    public static void main(String[] args) {
        promise10Days();
        promise10DaysRefused();
        promise11Plane();
        promise12Reach();
        promise13Way();
        promise14Gait();
        promise15Tread();
        promise16Walker();
        promise17Tune();
        promise17TuneByWetStepAndWear();
        promise18Where();
        promise19Heard();
        DUE.end();
    }

    private static void promise10Days() {
        StairTunes x = Due.townOf(TOWN);
        DUE.is("a day", x.days(1), 12);
        DUE.is("another", x.days(1), 24);
        DUE.is("day", x.count(3), 2);
        x = Due.townOf("t4,0;p9;p5;p5;z0,2,2,0;z0,0,1,9;");
        DUE.is("nine days", x.days(9), 27);
        DUE.is("two wear it", x.tread(0, 1), 18);
        DUE.is("leapt over", x.tread(1, 1), 0);
        DUE.is("from, the other way", x.walker(0, 0), 2);
        DUE.is("to, the other way", x.walker(0, 1), 0);
        DUE.is("dry", x.count(4), 0);
        x.days(1);
        DUE.is("wet on day 10", x.count(4), 1);
        x.days(24);
        x.days(24);
        DUE.is("worn 99 at most", x.tread(0, 1), 99);
        DUE.is("the other is worn on", x.tread(2, 1), 58);
        DUE.is("tone 0 at least", x.tread(2, 2), 0);
        DUE.is("day 58", x.count(3), 58);
    }

    private static void promise10DaysRefused() {
        StairTunes x = new StairTunes();
        DUE.is("no town", x.days(1), StairTunes.STATE);
        DUE.is("no town ahead of bad", x.days(0), StairTunes.STATE);
        Due.tell(x, "t0,0;p0;z0,0,1,0;");
        DUE.is("no days", x.days(0), BAD);
        DUE.is("too many", x.days(25), BAD);
        DUE.is("below", x.days(Integer.MIN_VALUE), BAD);
        for (int k = 0; k < 41; k++) {
            x.days(24);
        }
        DUE.is("day 984", x.count(3), 984);
        DUE.is("to day 1000", x.days(16), StairTunes.FULL);
        DUE.is("bad ahead of full", x.days(25), BAD);
        DUE.is("nothing became another", x.count(3), 984);
        DUE.is("to day 999", x.days(15), 99);
        DUE.is("day 999", x.count(3), 999);
        DUE.is("one more", x.days(1), StairTunes.FULL);
        DUE.is("ahead, beyond it", x.ahead(0, 60, 1), 99);
        DUE.is("weeks, beyond it", x.drawn(60, 1, 0), 60);
        x.undo();
        DUE.is("one more then", x.days(1), 99);
    }

    private static void promise11Plane() {
        StairTunes x = Due.townOf(TOWN);
        x.days(5);
        DUE.is("worn by two", x.tread(0, 1), 10);
        DUE.is("tone it had", x.plane(0, 9), 2);
        DUE.is("note", x.tread(0, 0), 9);
        DUE.is("not worn", x.tread(0, 1), 0);
        DUE.is("tone it had then", x.plane(0, 0), 9);
        DUE.is("note above", x.plane(0, 10), BAD);
        DUE.is("note below", x.plane(0, -1), BAD);
        DUE.is("no such tread", x.plane(6, 0), BAD);
        DUE.is("tread below", x.plane(-1, 0), BAD);
        DUE.is("others are worn yet", x.tread(5, 1), 10);
        DUE.is("no town", new StairTunes().plane(0, 0), BAD);
    }

    private static void promise12Reach() {
        StairTunes x = new StairTunes();
        DUE.is("no town", x.reach(10), StairTunes.STATE);
        Due.tell(x, TOWN);
        DUE.is("it was", x.reach(9), 1);
        DUE.is("it was then", x.reach(0), 9);
        DUE.is("above", x.reach(10), BAD);
        DUE.is("below", x.reach(-1), BAD);
        DUE.is("reach", x.count(5), 0);
        DUE.is("heard less far", x.heard(0, 0), 8);
    }

    private static void promise13Way() {
        StairTunes x = Due.townOf(TOWN);
        DUE.is("up", x.way(1, 0, 5), 4);
        DUE.is("from", x.walker(1, 0), 0);
        DUE.is("to", x.walker(1, 1), 5);
        DUE.is("step stays", x.walker(1, 2), 2);
        DUE.is("standing", x.way(1, 3, 3), 1);
        DUE.is("down", x.way(1, 4, 0), 3);
        DUE.is("no such walker", x.way(3, 0, 0), BAD);
        DUE.is("walker below", x.way(-1, 0, 0), BAD);
        DUE.is("from above", x.way(0, 6, 0), BAD);
        DUE.is("to above", x.way(0, 0, 6), BAD);
        DUE.is("from below", x.way(0, -1, 0), BAD);
        DUE.is("to below", x.way(0, 0, -1), BAD);
        DUE.is("acts", x.count(6), 3);
    }

    private static void promise14Gait() {
        StairTunes x = Due.townOf(TOWN);
        DUE.is("by threes", x.gait(0, 3, 20), 3);
        DUE.is("step", x.walker(0, 2), 3);
        DUE.is("start", x.walker(0, 3), 20);
        DUE.is("from stays", x.walker(0, 0), 0);
        DUE.is("by twos", x.gait(0, 2, 0), 4);
        DUE.is("by ones", x.gait(0, 1, 0), 6);
        DUE.is("step 0", x.gait(0, 0, 0), BAD);
        DUE.is("step 4", x.gait(0, 4, 0), BAD);
        DUE.is("start below", x.gait(0, 1, -1), BAD);
        DUE.is("start above", x.gait(0, 1, 21), BAD);
        DUE.is("no such walker", x.gait(3, 1, 0), BAD);
        DUE.is("acts", x.count(6), 3);
    }

    private static void promise15Tread() {
        StairTunes x = Due.townOf(TOWN);
        x.days(5);
        DUE.is("note", x.tread(0, 0), 3);
        DUE.is("worn", x.tread(0, 1), 10);
        DUE.is("tone", x.tread(0, 2), 2);
        // On this day 0 goes down from 5 to 0, 1 goes 0, 2, 4, 5, and 2 goes 4, 1.
        int[] walkers = {3, 5, 3, 1, 7, 3};
        for (int t = 0; t < 6; t++) {
            DUE.is("walkers on " + t, x.tread(t, 3), walkers[t]);
        }
        x.way(0, 5, 5);
        DUE.is("walkers but the first", x.tread(0, 3), 2);
        DUE.is("nobody", Due.townOf("t0,0;p0;p0;z0,0,1,0;").tread(1, 3), 0);
        DUE.is("what above", x.tread(0, 4), BAD);
        DUE.is("what below", x.tread(0, -1), BAD);
        DUE.is("no such tread", x.tread(6, 0), BAD);
        DUE.is("tread below", x.tread(-1, 0), BAD);
    }

    private static void promise16Walker() {
        StairTunes x = Due.townOf(TOWN);
        int[] parts = {5, 0, 2, 1};
        for (int what = 0; what < 4; what++) {
            DUE.is("part " + what, x.walker(1, what), parts[what]);
        }
        DUE.is("what above", x.walker(0, 4), BAD);
        DUE.is("what below", x.walker(0, -1), BAD);
        DUE.is("no such walker", x.walker(3, 0), BAD);
        DUE.is("walker below", x.walker(-1, 0), BAD);
    }

    private static void tune(StairTunes x, int walker, int... sounds) {
        for (int k = 0; k < sounds.length; k++) {
            DUE.is("tune " + walker + ", " + k, x.tune(walker, k), sounds[k]);
        }
        DUE.is("tune behind the end", x.tune(walker, sounds.length), NONE);
    }

    private static void promise17Tune() {
        StairTunes x = Due.townOf(TOWN);
        tune(x, 0, 3, 6, 9, 10, 10, 0);
        tune(x, 1, 0, 10, 6, 3);
        tune(x, 2, 6, 4);
        DUE.is("far behind the end", x.tune(0, Integer.MAX_VALUE), NONE);
        DUE.is("k below", x.tune(0, -1), BAD);
        DUE.is("no such walker", x.tune(3, 0), BAD);
        DUE.is("walker below", x.tune(-1, 0), BAD);
    }

    private static void promise17TuneByWetStepAndWear() {
        StairTunes x = Due.townOf("t2,0;s0;s5;l3;f9;l9;z0,4,1,0;z4,0,2,0;z4,3,3,0;z2,2,3,0;");
        tune(x, 0, 0, 5, 3, 10, 9);
        tune(x, 1, 9, 4, 0);
        tune(x, 2, 9, 4);
        tune(x, 3, 5);
        x.days(1);
        tune(x, 0, 9, 10, 3, 4, 0);
        tune(x, 2, 4, 9);
        // Tread 4 is worn by three a day, tread 3 by two.
        x.days(3);
        tune(x, 0, 0, 5, 2, 10, 8);
        tune(x, 1, 9, 3, 0);
        x.days(6);
        tune(x, 2, 8, 3);
    }

    private static void where(StairTunes x, int walker, int first, int... treads) {
        for (int k = 0; k < treads.length; k++) {
            DUE.is("where " + walker + ", " + (first + k), x.where(walker, first + k), treads[k]);
        }
    }

    private static void promise18Where() {
        StairTunes x = Due.townOf(TOWN);
        where(x, 0, 0, 0, 1, 2, 3, 4, 5, NONE);
        where(x, 1, 0, NONE, 5, 3, 1, 0, NONE);
        where(x, 2, 0, 1, 4, NONE);
        x.gait(1, 1, 20);
        where(x, 1, 19, NONE, 5, 4, 3, 2, 1, 0, NONE, NONE, NONE, NONE, BAD);
        DUE.is("minute below", x.where(0, -1), BAD);
        DUE.is("no such walker", x.where(3, 0), BAD);
        DUE.is("walker below", x.where(-1, 0), BAD);
    }

    private static void heard(StairTunes x, int door, int... bits) {
        for (int m = 0; m < bits.length; m++) {
            DUE.is("heard " + door + ", " + m, x.heard(door, m), bits[m]);
        }
    }

    private static void promise19Heard() {
        StairTunes x = Due.townOf(TOWN);
        heard(x, 0, 72, 64, 0, 64, 8, 0);
        heard(x, 1, 72, 64, 512, 64, 8, 0);
        heard(x, 3, 0, 16, 512, 0, 0, 0);
        heard(x, 5, 0, 17, 0, 0, 0, 1, 0);
        x.reach(9);
        heard(x, 5, 72, 81, 512, 64, 8, 1, 0);
        DUE.is("last minute", x.heard(0, 29), 0);
        DUE.is("minute above", x.heard(0, 30), BAD);
        DUE.is("minute below", x.heard(0, -1), BAD);
        DUE.is("no such tread", x.heard(6, 0), BAD);
        DUE.is("tread below", x.heard(-1, 0), BAD);
    }
}
