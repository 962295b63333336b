/** Promises 20 to 34: what is FORETOLD, and IMAGES. */
public final class ForetoldTest {
    private static final int NONE = StairTunes.NONE, BAD = StairTunes.BAD, STATE = StairTunes.STATE;
    private static final Due DUE = new Due();
    private static final String TOWN = DoneTest.TOWN;
    /** One loose tread: it sounds 1 in minute 0, and 2 in minute 5. */
    private static final String LOOSE = "t0,0;l1;z0,0,1,0;z0,0,2,5;";

    public static void main(String[] args) {
        promise20Ahead();
        promise21Length();
        promise22Meet();
        promise23Choir();
        promise24Twins();
        promise25Felt();
        promise26Doors();
        promise27Planed();
        promise28Rise();
        promise29What();
        promise29WhatRefused();
        promise30Who();
        promise30WhoRefused();
        promise31Rots();
        promise32Drawn();
        promise33And34Images();
        nothingChanges();
        DUE.end();
    }

    private static void promise20Ahead() {
        StairTunes x = Due.townOf(TOWN);
        DUE.is("now", x.ahead(0, 0, 1), 0);
        DUE.is("tone now", x.ahead(0, 0, 0), 3);
        DUE.is("tone in 4 days", x.ahead(0, 4, 0), 3);
        DUE.is("tone in 5 days", x.ahead(0, 5, 0), 2);
        DUE.is("worn in 5 days", x.ahead(0, 5, 1), 10);
        DUE.is("worn in 2 days, ways exchanged", x.ahead(1, 2, 1), 5);
        DUE.is("worn in 60 days", x.ahead(0, 60, 1), 99);
        DUE.is("tone in 60 days", x.ahead(0, 60, 0), 0);
        DUE.is("n above", x.ahead(0, 61, 0), BAD);
        DUE.is("n below", x.ahead(0, -1, 0), BAD);
        DUE.is("what above", x.ahead(0, 0, 2), BAD);
        DUE.is("what below", x.ahead(0, 0, -1), BAD);
        DUE.is("no such tread", x.ahead(6, 0, 0), BAD);
    }

    private static void promise21Length() {
        StairTunes x = Due.townOf("t0,0;p0;p0;p0;p0;p0;p0;p0;p0;z0,7,1,0;z0,7,2,0;z7,0,3,20;z0,6,3,0;z4,4,3,0;");
        int[] lengths = {8, 5, 4, 3, 1};
        for (int w = 0; w < 5; w++) {
            DUE.is("length " + w, x.length(w), lengths[w]);
        }
        DUE.is("no such walker", x.length(5), BAD);
        DUE.is("walker below", x.length(-1), BAD);
    }

    private static int meeting(String walkers) {
        return Due.townOf("t0,0;p0;p0;p0;p0;p0;p0;" + walkers).meet(0, 1);
    }

    private static void promise22Meet() {
        DUE.is("on one tread", meeting("z0,4,1,0;z4,0,1,0;"), 2);
        DUE.is("between two treads", meeting("z0,5,1,0;z5,0,1,0;"), 3);
        DUE.is("at once", meeting("z3,3,1,20;z3,0,1,20;"), 20);
        DUE.is("at the last of one", meeting("z5,0,1,15;z0,0,1,20;"), 20);
        DUE.is("at the last of both", meeting("z0,5,3,20;z3,5,1,20;"), 22);
        DUE.is("gone by then", meeting("z5,0,1,0;z0,0,1,6;"), NONE);
        DUE.is("not yet there", meeting("z0,1,1,0;z1,0,1,2;"), NONE);
        DUE.is("one behind the other", meeting("z0,5,1,0;z0,5,1,1;"), NONE);
        DUE.is("leapt over", meeting("z0,5,3,0;z2,2,1,1;"), NONE);
        DUE.is("past each other by leaps", meeting("z0,5,2,0;z5,0,1,0;"), NONE);
        StairTunes x = Due.townOf(TOWN);
        DUE.is("alike", x.meet(1, 1), BAD);
        DUE.is("no such walker", x.meet(0, 3), BAD);
        DUE.is("no such first", x.meet(3, 0), BAD);
        DUE.is("walker below", x.meet(-1, 0), BAD);
    }

    private static void promise23Choir() {
        StairTunes x = new StairTunes();
        DUE.is("no town ahead of bad", x.choir(2), STATE);
        Due.tell(x, TOWN);
        DUE.is("which", x.choir(0), 1);
        DUE.is("how many", x.choir(1), 3);
        DUE.is("what above", x.choir(2), BAD);
        DUE.is("what below", x.choir(-1), BAD);
        x.reach(0);
        DUE.is("by no reach", x.choir(1), 3);
        Due.tell(x, "t0,0;p4;p5;p4;z0,0,1,7;z2,2,1,7;z1,1,1,9;z1,1,1,12;");
        DUE.is("the first of several", x.choir(0), 7);
        DUE.is("like notes once", x.choir(1), 1);
        Due.tell(x, "t0,0;r4;z0,0,1,7;");
        DUE.is("no notes at all", x.choir(0), 0);
        DUE.is("none", x.choir(1), 0);
    }

    private static void promise24Twins() {
        StairTunes x = new StairTunes();
        DUE.is("no town ahead of bad", x.twins(2), STATE);
        Due.tell(x, TOWN);
        DUE.is("none", x.twins(0), 0);
        DUE.is("no first", x.twins(1), NONE);
        DUE.is("what above", x.twins(2), BAD);
        DUE.is("what below", x.twins(-1), BAD);
        Due.tell(x, "t0,0;p4;p5;p4;p0;z0,3,3,0;z1,0,1,0;z2,3,1,9;z1,2,1,4;z0,3,3,8;");
        DUE.is("pairs", x.twins(0), 4);
        DUE.is("the first", x.twins(1), 2);
        x.way(0, 3, 3);
        DUE.is("pairs then", x.twins(0), 2);
        DUE.is("the first then", x.twins(1), 13);
        Due.tell(x, "t0,0;p0;p0;z0,0,1,0;z0,1,1,0;");
        DUE.is("of other lengths", x.twins(0), 0);
        Due.tell(x, "t0,0;r0;f1;z0,0,1,0;z1,1,1,0;");
        DUE.is("rests alike", x.twins(0), 1);
        Due.tell(x, "t0,0;p1;p2;z0,1,1,0;z1,0,1,0;");
        DUE.is("like sounds, another order", x.twins(0), 0);
    }

    private static void felt(StairTunes x, int walker, int tread, int many, int which) {
        DUE.is("felt " + walker + ", " + tread, x.felt(walker, tread, 0), many);
        DUE.is("felt which " + walker + ", " + tread, x.felt(walker, tread, 1), which);
    }

    private static void promise25Felt() {
        StairTunes x = Due.townOf(TOWN);
        felt(x, 0, 0, 2, 3);
        felt(x, 1, 5, 1, 32);
        felt(x, 0, 3, 1, 4);
        felt(x, 2, 0, NONE, NONE);
        felt(x, 2, 3, NONE, NONE);
        x.reach(0);
        felt(x, 2, 3, 0, 0);
        felt(x, 0, 3, 0, 0);
        DUE.is("what above", x.felt(0, 0, 2), BAD);
        DUE.is("what below", x.felt(0, 0, -1), BAD);
        DUE.is("no such walker", x.felt(3, 0, 0), BAD);
        DUE.is("no such tread", x.felt(0, 6, 0), BAD);
    }

    private static void promise26Doors() {
        StairTunes x = new StairTunes();
        DUE.is("no town ahead of bad", x.doors(2), STATE);
        Due.tell(x, TOWN);
        DUE.is("one", x.doors(0), 1);
        DUE.is("the least", x.doors(1), 1);
        DUE.is("what above", x.doors(2), BAD);
        DUE.is("what below", x.doors(-1), BAD);
        Due.tell(x, "t0,1;p1;p1;p1;r1;p1;p1;p1;p1;z0,0,1,0;z2,3,1,0;z7,7,1,0;");
        DUE.is("two", x.doors(0), 2);
        DUE.is("which two", x.doors(1), 66);
        x.reach(0);
        DUE.is("three", x.doors(0), 3);
        DUE.is("which three", x.doors(1), 133);
        x.way(1, 3, 3);
        DUE.is("nothing of one", x.doors(0), NONE);
        DUE.is("no such set", x.doors(1), NONE);
        Due.tell(x, "t0,0;p1;p1;p1;z0,2,2,0;z1,2,1,0;");
        DUE.is("one, not two lesser ones", x.doors(0), 1);
        DUE.is("which one", x.doors(1), 4);
    }

    private static void promise27Planed() {
        StairTunes x = new StairTunes();
        DUE.is("no town ahead of bad", x.planed(2), STATE);
        Due.tell(x, "t0,0;p4;p4;p4;z0,0,1,0;z1,1,1,0;z2,2,1,0;");
        DUE.is("which", x.planed(0), 0);
        DUE.is("how many then", x.planed(1), 1);
        DUE.is("what above", x.planed(2), BAD);
        DUE.is("what below", x.planed(-1), BAD);
        Due.tell(x, "t0,0;r4;p0;p0;z0,0,1,0;z1,1,1,0;z2,2,1,0;");
        DUE.is("the first that helps", x.planed(0), 11);
        DUE.is("none then", x.planed(1), 0);
        // Two are alike but by wear: planed, the first of them is so no more.
        Due.tell(x, "t0,0;p1;p0;z0,0,1,0;z1,1,1,0;z0,0,1,0;");
        x.days(5);
        DUE.is("twins by wear", x.twins(0), 3);
        DUE.is("planed to what it was", x.planed(0), 1);
        DUE.is("one pair is left", x.planed(1), 1);
        Due.tell(x, "t0,0;p1;p0;p0;z0,0,1,0;z1,1,1,0;z2,2,1,0;");
        x.days(10);
        DUE.is("each is worn as it is but the planed one", x.planed(0), 1);
        DUE.is("one pair is left by any", x.planed(1), 1);
    }

    private static void promise28Rise() {
        StairTunes x = Due.townOf(LOOSE);
        DUE.is("one note", x.rise(0, 0, 1, 0), 63);
        DUE.is("the first", x.rise(0, 0, 1, 1), 100);
        DUE.is("two notes", x.rise(0, 0, 2, 0), 2);
        DUE.is("the first of two", x.rise(0, 0, 2, 1), 105);
        DUE.is("two notes of the other", x.rise(1, 0, 2, 1), 200);
        DUE.is("three notes", x.rise(0, 0, 3, 0), 0);
        DUE.is("no first", x.rise(0, 0, 3, 1), NONE);
        DUE.is("nine notes", x.rise(0, 0, 9, 0), 0);
        DUE.is("n below", x.rise(0, 0, 0, 0), BAD);
        DUE.is("n above", x.rise(0, 0, 10, 0), BAD);
        DUE.is("what above", x.rise(0, 0, 1, 2), BAD);
        DUE.is("what below", x.rise(0, 0, 1, -1), BAD);
        DUE.is("no such walker", x.rise(2, 0, 1, 0), BAD);
        DUE.is("no such tread", x.rise(0, 1, 1, 0), BAD);
        // One is in his walk in minute 20 by any of 21 starts but those that end ahead of it.
        Due.tell(x, "t0,0;p3;p4;p5;r0;z3,3,1,0;z0,0,1,20;");
        DUE.is("heard in his walk, not by him", x.rise(0, 0, 1, 1), 120);
        DUE.is("once for each step", x.rise(0, 0, 1, 0), 3);
        Due.tell(x, "t0,0;p3;p4;z0,1,1,0;z0,0,1,5;");
        DUE.is("in his second minute", x.rise(0, 1, 1, 0), 63);
    }

    private static void lay(StairTunes x, int row, int... items) {
        x.row(row, 2, items.length);
        for (int i = 0; i < items.length; i++) {
            x.set(row, i, items[i]);
        }
    }

    private static void promise29What() {
        StairTunes x = Due.townOf(LOOSE);
        lay(x, 4, 2, 0, 0, 0, 0, 4, 0);
        DUE.is("kinds by one minute", x.what(0, 0, 0, 0, 4, 0, 1), 14);
        DUE.is("kinds by six minutes", x.what(0, 0, 0, 0, 4, 0, 6), 8);
        DUE.is("kinds from item 5 on", x.what(0, 0, 0, 5, 4, 5, 2), 8);
        DUE.is("notes", x.what(0, 1, 0, 0, 4, 0, 6), 2);
        DUE.is("notes of another minute", x.what(0, 1, 0, 5, 4, 0, 1), 1);
        DUE.is("kinds by silence", x.what(0, 0, 0, 1, 4, 1, 4), 62);
        lay(x, 5, 0);
        DUE.is("kinds that are silent", x.what(0, 0, 0, 0, 5, 0, 1), 48);
        x.gait(0, 3, 0);
        DUE.is("felted sounds by threes", x.what(0, 0, 0, 0, 5, 0, 1), 16);
        lay(x, 5, 0, 0, 0, 0, 0, 0, 0, 0, 0, 0, 0, 0, 0);
        DUE.is("twelve from minute 29 on", x.what(0, 0, 0, 29, 5, 1, 12), 62);
        lay(x, 5, 1024);
        DUE.is("what never sounds", x.what(0, 1, 0, 0, 5, 0, 1), 0);
        x.days(5);
        lay(x, 6, 8);
        DUE.is("worn as it is", x.what(0, 1, 0, 0, 6, 0, 1), 4);
    }

    private static void promise29WhatRefused() {
        StairTunes x = Due.townOf(LOOSE);
        lay(x, 4, 2, 0, 0, 0, 0, 4, 0);
        DUE.is("no such tread", x.what(1, 0, 0, 0, 4, 0, 1), BAD);
        DUE.is("which above", x.what(0, 2, 0, 0, 4, 0, 1), BAD);
        DUE.is("which below", x.what(0, -1, 0, 0, 4, 0, 1), BAD);
        DUE.is("no such door", x.what(0, 0, 1, 0, 4, 0, 1), BAD);
        DUE.is("minute above", x.what(0, 0, 0, 30, 4, 0, 1), BAD);
        DUE.is("minute below", x.what(0, 0, 0, -1, 4, 0, 1), BAD);
        DUE.is("no such row", x.what(0, 0, 0, 0, 8, 0, 1), BAD);
        DUE.is("row below", x.what(0, 0, 0, 0, -1, 0, 1), BAD);
        DUE.is("n above", x.what(0, 0, 0, 0, 4, 0, 13), BAD);
        DUE.is("n below", x.what(0, 0, 0, 0, 4, 0, 0), BAD);
        DUE.is("bad ahead of null", x.what(0, 0, 0, 0, 3, 0, 0), BAD);
        DUE.is("missing", x.what(0, 0, 0, 0, 3, 9, 1), -1000011);
        DUE.is("place behind", x.what(0, 0, 0, 0, 4, 7, 1), -1000012);
        DUE.is("place below", x.what(0, 0, 0, 0, 4, -1, 1), -1000012);
        DUE.is("place far", x.what(0, 0, 0, 0, 4, Integer.MAX_VALUE, 12), -1000012);
        DUE.is("beyond the end", x.what(0, 0, 0, 0, 4, 0, 8), -1000012);
    }

    private static void promise30Who() {
        StairTunes x = Due.townOf(LOOSE);
        lay(x, 4, 2, 0, 0, 0, 0, 4, 0);
        DUE.is("starts", x.who(1, 3, 0, 0, 4, 0, 6), 32);
        DUE.is("starts of the first", x.who(0, 3, 0, 0, 4, 0, 1), 1);
        DUE.is("steps", x.who(1, 2, 0, 0, 4, 0, 6), 4);
        DUE.is("steps by one minute", x.who(1, 2, 0, 0, 4, 0, 1), 14);
        DUE.is("froms", x.who(0, 0, 0, 0, 4, 0, 6), 1);
        Due.tell(x, "t0,0;p1;p2;p3;p4;z0,3,1,0;z1,1,1,9;");
        lay(x, 4, 0, 4, 0);
        DUE.is("froms by where", x.who(0, 0, 1, 0, 4, 0, 2), 1);
        DUE.is("tos by where", x.who(0, 1, 1, 0, 4, 0, 2), 14);
        DUE.is("steps by where", x.who(0, 2, 1, 0, 4, 0, 2), 2);
        DUE.is("starts by where", x.who(0, 3, 1, 0, 4, 0, 2), 1);
        DUE.is("froms by silence", x.who(0, 0, 1, 0, 4, 0, 1), 13);
        DUE.is("starts by silence", x.who(0, 3, 1, 29, 4, 2, 1), (1 << 21) - 1);
        DUE.is("starts late", x.who(0, 3, 1, 20, 4, 0, 2), 1 << 20);
    }

    private static void promise30WhoRefused() {
        StairTunes x = Due.townOf(LOOSE);
        lay(x, 4, 2, 0, 0, 0, 0, 4, 0);
        DUE.is("no such walker", x.who(2, 0, 0, 0, 4, 0, 1), BAD);
        DUE.is("walker below", x.who(-1, 0, 0, 0, 4, 0, 1), BAD);
        DUE.is("which above", x.who(0, 4, 0, 0, 4, 0, 1), BAD);
        DUE.is("which below", x.who(0, -1, 0, 0, 4, 0, 1), BAD);
        DUE.is("no such door", x.who(0, 0, 1, 0, 4, 0, 1), BAD);
        DUE.is("minute above", x.who(0, 0, 0, 30, 4, 0, 1), BAD);
        DUE.is("no such row", x.who(0, 0, 0, 0, 8, 0, 1), BAD);
        DUE.is("n above", x.who(0, 0, 0, 0, 4, 0, 13), BAD);
        DUE.is("n below", x.who(0, 0, 0, 0, 4, 0, 0), BAD);
        DUE.is("missing", x.who(0, 0, 0, 0, 3, 0, 1), -1000011);
        DUE.is("beyond the end", x.who(0, 0, 0, 0, 4, 6, 2), -1000012);
        DUE.is("place below", x.who(0, 0, 0, 0, 4, -1, 2), -1000012);
    }

    private static void rots(StairTunes x, int walker, int tread, int p, long above, long below) {
        DUE.is("rots above " + walker + ", " + tread + ", " + p, x.rots(walker, tread, p, 0), above);
        DUE.is("rots below " + walker + ", " + tread + ", " + p, x.rots(walker, tread, p, 1), below);
    }

    private static void promise31Rots() {
        StairTunes x = Due.townOf(TOWN);
        rots(x, 0, 0, 5, 3, 4);
        rots(x, 0, 0, 4, 21, 25);
        rots(x, 0, 0, 0, 1, 1);
        rots(x, 0, 0, 10, 0, 1);
        rots(x, 2, 3, 10, 1, 1);
        rots(x, 0, 3, 3, 7, 10);
        rots(x, 1, 4, 8, 1, 5);
        x.reach(0);
        rots(x, 0, 3, 5, 0, 1);
        rots(x, 1, 2, 5, 0, 1);
        x.reach(9);
        x.gait(2, 1, 0);
        rots(x, 2, 0, 9, 19, 100);
        Due.tell(x, "t0,9;p0;p0;p0;p0;p0;p0;p0;p0;z0,7,1,0;");
        rots(x, 0, 0, 9, 56953279, 100000000);
        rots(x, 0, 0, 1, 99999999, 100000000);
        DUE.is("p above", x.rots(0, 0, 11, 0), BAD);
        DUE.is("p below", x.rots(0, 0, -1, 0), BAD);
        DUE.is("what above", x.rots(0, 0, 0, 2), BAD);
        DUE.is("what below", x.rots(0, 0, 0, -1), BAD);
        DUE.is("no such walker", x.rots(1, 0, 0, 0), BAD);
        DUE.is("no such tread", x.rots(0, 8, 0, 0), BAD);
    }

    private static void promise32Drawn() {
        StairTunes x = new StairTunes();
        DUE.is("no town ahead of bad", x.drawn(61, 0, 2), STATE);
        // By seed 1 it is X 7, 101027544, that 3 divides first: the tread is planed to 4.
        Due.tell(x, "t0,0;p9;z0,0,1,0;");
        DUE.is("no days", x.drawn(0, 1, 0), 0);
        DUE.is("tones now", x.drawn(0, 1, 1), 9);
        DUE.is("six days", x.drawn(6, 1, 0), 6);
        DUE.is("tones in six days", x.drawn(6, 1, 1), 9);
        DUE.is("seven days", x.drawn(7, 1, 0), 7);
        DUE.is("tones in seven days", x.drawn(7, 1, 1), 4);
        x.days(4);
        DUE.is("worn in the weeks", x.drawn(6, 1, 1), 8);
        // X 7 by 5 leaves 4.
        Due.tell(x, "t0,0;r0;r0;r0;r0;p0;z0,4,1,0;z4,4,1,0;");
        DUE.is("steps that sound", x.drawn(7, 1, 0), 14);
        DUE.is("tones of the fifth", x.drawn(7, 1, 1), 4);
        // By seed 3 X 1 is 50421, that 3 divides: the second tread is planed to 1.
        DUE.is("tones by seed 3", x.drawn(1, 3, 1), 1);
        DUE.is("n above", x.drawn(61, 1, 0), BAD);
        DUE.is("n below", x.drawn(-1, 1, 0), BAD);
        DUE.is("seed 0", x.drawn(1, 0, 0), BAD);
        DUE.is("seed above", x.drawn(1, 1000000, 0), BAD);
        DUE.is("greatest seed", x.drawn(60, 999999, 0), 120);
        DUE.is("what above", x.drawn(1, 1, 2), BAD);
        DUE.is("what below", x.drawn(1, 1, -1), BAD);
    }

    private static void promise33And34Images() {
        StairTunes x = new StairTunes();
        DUE.is("no town", x.image(0), STATE);
        DUE.is("bad ahead of no town", x.image(2), BAD);
        DUE.is("no image", x.restore(0), STATE);
        Due.tell(x, TOWN);
        x.days(3);
        DUE.is("image", x.image(0), 1);
        DUE.is("image above", x.image(2), BAD);
        DUE.is("image below", x.image(-1), BAD);
        DUE.is("acts stay", x.count(6), 3);
        x.plane(0, 9);
        x.way(0, 2, 2);
        x.gait(0, 3, 9);
        x.reach(7);
        x.days(1);
        DUE.is("another image", x.image(1), 1);
        DUE.is("restore", x.restore(0), 1);
        DUE.is("no act can be undone", x.count(6), 0);
        DUE.is("undo", x.undo(), STATE);
        DUE.is("day", x.count(3), 3);
        DUE.is("reach", x.count(5), 1);
        DUE.is("note", x.tread(0, 0), 3);
        DUE.is("worn", x.tread(0, 1), 6);
        DUE.is("from", x.walker(0, 0), 5);
        DUE.is("step", x.walker(0, 2), 1);
        x.plane(1, 0);
        DUE.is("restore once more", x.restore(0), 1);
        DUE.is("the image stayed", x.tread(1, 0), 7);
        DUE.is("the other image", x.restore(1), 1);
        DUE.is("its note", x.tread(0, 0), 9);
        DUE.is("its day", x.count(3), 4);
        DUE.is("restore above", x.restore(2), BAD);
        DUE.is("restore below", x.restore(-1), BAD);
    }

    private static void nothingChanges() {
        StairTunes x = Due.townOf(TOWN);
        lay(x, 0, 72);
        x.ahead(0, 60, 0);
        x.choir(0);
        x.felt(0, 0, 0);
        x.doors(0);
        x.planed(0);
        x.rise(0, 0, 1, 0);
        x.what(0, 0, 0, 0, 0, 0, 1);
        x.what(0, 1, 0, 0, 0, 0, 1);
        for (int which = 0; which < 4; which++) {
            x.who(0, which, 0, 0, 0, 0, 1);
        }
        x.rots(0, 0, 5, 0);
        x.drawn(60, 1, 0);
        DUE.is("no acts", x.count(6), 0);
        DUE.is("no days", x.count(3), 0);
        DUE.is("kind", x.kind(0), 1);
        int[] parts = {0, 5, 1, 0};
        for (int part = 0; part < 4; part++) {
            DUE.is("part " + part, x.walker(0, part), parts[part]);
        }
        int[] notes = {3, 7, 9, 4, 8, 0};
        for (int t = 0; t < 6; t++) {
            DUE.is("note " + t, x.tread(t, 0), notes[t]);
            DUE.is("worn " + t, x.tread(t, 1), 0);
        }
    }
}
