/** What is FORETOLD, promises 20 to 32, and IMAGES, promises 33 and 34, sentence by sentence, at their edges. */
public final class ForetoldEdgeTest {
    private static final int NONE = StairTunes.NONE, STATE = StairTunes.STATE;
    private static final String STAIRS = "t0,0;p0;p1;p2;p3;p4;p5;p6;p7;";
    private static final Due DUE = new Due();

    public static void main(String[] args) {
        promise20();
        promise21();
        promise22OnOneTread();
        promise22ByExchange();
        promise23();
        promise24();
        promise25();
        promise25ByStep3();
        promise26();
        promise27();
        promise28();
        promise28Edges();
        promise31();
        promise31TheFraction();
        promise32();
        promise32ByTheRests();
        promise33And34();
        nothingChanges();
        DUE.end();
    }

    private static void promise20() {
        StairTunes x = Due.townOf("t0,0;p9;p9;p5;z0,2,2,0;z0,0,1,0;");
        DUE.sentence("AHEAD by 0 DAYS: as it is");
        DUE.is("worn", x.ahead(0, 0, 1), 0);
        DUE.is("tone", x.ahead(0, 0, 0), 9);
        DUE.sentence("AHEAD by 1 DAY: as days(1) makes it");
        DUE.is("worn 0", x.ahead(0, 1, 1), 2);
        DUE.is("worn 1", x.ahead(1, 1, 1), 0);
        DUE.is("worn 2", x.ahead(2, 1, 1), 1);
        DUE.sentence("AHEAD by 60 DAYS: how often WORN, 99 at most");
        DUE.is("worn 0 in 49", x.ahead(0, 49, 1), 98);
        DUE.is("worn 0 in 50", x.ahead(0, 50, 1), 99);
        DUE.is("worn 0", x.ahead(0, 60, 1), 99);
        DUE.is("worn 2", x.ahead(2, 60, 1), 60);
        DUE.sentence("AHEAD by 60 DAYS: TONE, 0 at least");
        DUE.is("tone 0 in 44", x.ahead(0, 44, 0), 1);
        DUE.is("tone 0 in 45", x.ahead(0, 45, 0), 0);
        DUE.is("tone 0", x.ahead(0, 60, 0), 0);
        DUE.is("tone 1", x.ahead(1, 60, 0), 9);
        DUE.is("tone 2", x.ahead(2, 60, 0), 0);
        DUE.sentence("AHEAD: FROM and TO are exchanged on each DAY");
        x = Due.townOf("t0,0;p9;p9;p9;p9;p9;p9;p9;p9;z0,7,3,0;");
        DUE.is("worn 3 in 5", x.ahead(3, 5, 1), 3);
        DUE.is("worn 4 in 5", x.ahead(4, 5, 1), 2);
        x.days(1);
        DUE.is("worn 3 in 5 more", x.ahead(3, 5, 1), 3);
        DUE.is("worn 4 in 5 more", x.ahead(4, 5, 1), 3);
        DUE.sentence("AHEAD: as days() makes it, by each n");
        for (int n = 1; n <= 24; n++) {
            int worn = x.ahead(3, n, 1);
            int tone = x.ahead(3, n, 0);
            x.image(0);
            x.days(n);
            DUE.is("worn in " + n, x.tread(3, 1), worn);
            DUE.is("tone in " + n, x.tread(3, 2), tone);
            x.restore(0);
        }
        DUE.sentence("AHEAD: beyond DAY 999, that days() alone refuses");
        x = Due.townOf("t0,0;p9;p9;z0,0,1,0;");
        for (int k = 0; k < 41; k++) {
            x.days(24);
        }
        x.days(15);
        x.plane(0, 9);
        DUE.is("worn in 60", x.ahead(0, 60, 1), 60);
        DUE.is("day", x.count(3), 999);
    }

    private static void promise21() {
        for (int step = 1; step <= 3; step++) {
            for (int far = 0; far < 8; far++) {
                DUE.sentence("LONG: how many TREADS one steps on, " + far + " TREADS far by " + step);
                int due = 1 + (far + step - 1) / step;
                DUE.is("up", Due.townOf(STAIRS + "z0," + far + "," + step + ",20;").length(0), due);
                DUE.is("down", Due.townOf(STAIRS + "z7," + (7 - far) + "," + step + ",0;").length(0), due);
            }
        }
    }

    private static void meet(String walkers, int due) {
        StairTunes x = Due.townOf(STAIRS + walkers);
        DUE.is("meet " + walkers, x.meet(0, 1), due);
        DUE.is("meet the other way, " + walkers, x.meet(1, 0), due);
    }

    private static void promise22OnOneTread() {
        DUE.sentence("MEET: both are on one TREAD, in MINUTE 0");
        meet("z3,3,1,0;z3,7,1,0;", 0);
        DUE.sentence("MEET: first, though they go on together");
        meet("z0,7,2,4;z0,7,2,4;", 4);
        DUE.sentence("MEET: in the last MINUTE of one, the first of the other");
        meet("z0,3,1,0;z3,7,1,3;", 3);
        DUE.sentence("MEET: NONE: one MINUTE too late");
        meet("z0,3,1,0;z3,7,1,4;", NONE);
        DUE.sentence("MEET: both on TO in their last MINUTE, the last step of one cut short");
        meet("z0,7,3,17;z5,7,2,19;", 20);
        meet("z0,7,3,17;z7,7,1,19;", NONE);
        DUE.sentence("MEET: (0 to 29): no two can meet behind MINUTE 24");
        meet("z7,0,1,20;z0,7,1,20;", 24);
        meet("z0,4,1,20;z7,0,1,20;", 24);
        meet("z7,1,1,20;z0,1,1,20;", NONE);
        meet("z0,6,1,20;z1,7,1,20;", NONE);
        DUE.sentence("MEET: NONE: never on one TREAD");
        meet("z0,3,1,0;z4,7,1,0;", NONE);
        DUE.sentence("MEET: NONE: on one TREAD in unlike MINUTES");
        meet("z0,7,1,0;z0,7,1,1;", NONE);
        meet("z5,5,1,0;z5,5,1,20;", NONE);
        DUE.sentence("MEET: on one TREAD, be it not to be heard");
        DUE.is("meet", Due.townOf("t0,0;r0;z0,0,1,5;z0,0,2,5;").meet(0, 1), 5);
    }

    private static void promise22ByExchange() {
        DUE.sentence("MEET: each is on that on which the other one was in the MINUTE ahead");
        meet("z0,1,1,0;z1,0,1,0;", 1);
        meet("z0,7,1,0;z7,0,1,0;", 4);
        meet("z0,2,2,5;z2,0,2,5;", 6);
        meet("z0,3,3,20;z3,0,3,20;", 21);
        DUE.sentence("MEET: NONE: only one is on that on which the other one was");
        meet("z0,2,1,1;z1,2,1,1;", NONE);
        meet("z0,1,1,0;z1,3,2,0;", NONE);
        DUE.sentence("MEET: NONE: past each other by leaps");
        meet("z0,3,3,0;z1,0,1,0;", NONE);
        meet("z0,7,3,20;z7,0,3,20;", NONE);
        DUE.sentence("MEET: NONE: who is no more, or not yet, on a TREAD, exchanges nothing");
        meet("z0,1,1,0;z1,0,1,1;", 1);
        meet("z0,0,1,0;z0,0,1,1;", NONE);
        meet("z0,1,1,0;z1,0,1,2;", NONE);
        meet("z0,2,1,0;z1,0,1,0;", 1);
    }

    private static void choir(String tape, int minute, int many) {
        StairTunes x = Due.townOf(tape);
        DUE.is("which, " + tape, x.choir(0), minute);
        DUE.is("how many, " + tape, x.choir(1), many);
    }

    private static void promise23() {
        DUE.sentence("CHOIR: MINUTE 0");
        choir("t0,0;p0;z0,0,1,0;", 0, 1);
        DUE.sentence("CHOIR: the latest MINUTE, 27");
        choir("t0,0;r0;r0;r0;r0;r0;r0;r0;p0;z0,7,1,20;", 27, 1);
        DUE.sentence("CHOIR: of several the first");
        choir("t0,0;p1;p2;z0,1,1,3;z1,0,1,3;", 3, 2);
        choir("t0,0;p1;p2;p3;z0,0,1,9;z1,2,1,8;z2,2,1,9;", 9, 2);
        DUE.sentence("CHOIR: unlike notes: like ones of unlike TREADS are one");
        choir("t0,0;p4;p4;p5;z0,0,1,1;z1,1,1,1;z2,2,1,6;", 1, 1);
        DUE.sentence("CHOIR: unlike notes of one TREAD are two");
        choir("t0,0;l4;z0,0,1,2;z0,0,2,2;z0,0,3,3;", 2, 2);
        DUE.sentence("CHOIR: five notes, all TREADS together, REACH 0");
        choir("t0,0;p1;p2;p3;r0;r0;r0;p4;p9;z0,0,1,7;z1,1,1,7;z2,2,1,7;z6,6,1,7;z7,7,1,7;", 7, 5);
        DUE.sentence("CHOIR: nothing sounds: MINUTE 0, none");
        choir("t0,9;r0;f9;z0,1,1,4;z1,1,2,0;", 0, 0);
        DUE.sentence("CHOIR: on this DAY");
        StairTunes x = Due.townOf("t2,0;s5;p4;z0,0,1,6;z1,1,1,6;");
        DUE.is("dry", x.choir(1), 2);
        x.days(1);
        DUE.is("wet", x.choir(1), 1);
    }

    private static void twins(String tape, int many, int first) {
        StairTunes x = Due.townOf(tape);
        DUE.is("how many, " + tape, x.twins(0), many);
        DUE.is("the first, " + tape, x.twins(1), first);
    }

    private static void promise24() {
        DUE.sentence("TWINS: one WALKER: none; NONE");
        twins("t0,0;p0;z0,0,1,0;", 0, NONE);
        DUE.sentence("TWINS: two alike: 10 the lesser, and the other one");
        twins("t0,0;p0;z0,0,1,0;z0,0,1,0;", 1, 1);
        DUE.sentence("TWINS: five alike: ten pairs");
        twins("t0,0;p0;z0,0,1,0;z0,0,2,9;z0,0,3,0;z0,0,1,20;z0,0,1,0;", 10, 1);
        DUE.sentence("TWINS: the first: by the lesser, then by the other one");
        twins("t0,0;p0;p1;z0,0,1,0;z1,1,1,0;z1,1,1,0;z0,0,1,0;z0,1,1,0;", 2, 3);
        twins("t0,0;p0;p1;p2;p3;z0,0,1,0;z1,1,1,0;z2,2,1,0;z3,3,1,0;z3,3,1,0;", 1, 34);
        DUE.sentence("TWINS: by TUNES, not by START or STEP");
        twins("t0,0;p5;p5;p5;z0,2,2,3;z0,1,1,9;", 1, 1);
        DUE.sentence("TWINS: unlike in the last sound alone");
        twins("t0,0;p0;p0;p0;p0;p0;p0;p0;p1;z0,7,1,0;z0,6,1,0;", 0, NONE);
        twins("t0,0;p0;p0;p1;z0,1,1,0;z0,2,2,0;", 0, NONE);
        DUE.sentence("TWINS: unlike in the first sound alone, of eight");
        twins("t0,0;p1;p0;p0;p0;p0;p0;p0;p0;z0,7,1,0;z7,0,1,0;", 0, NONE);
        DUE.sentence("TWINS: unlike where one is longer, by note 0 or by a REST");
        twins("t0,0;p0;p0;z0,0,1,0;z0,1,1,0;", 0, NONE);
        twins("t0,0;r0;r0;z0,0,1,0;z0,1,1,0;", 0, NONE);
        DUE.sentence("TWINS: a REST is unlike note 0");
        twins("t0,0;r0;p0;z0,0,1,0;z1,1,1,0;", 0, NONE);
        DUE.sentence("TWINS: a REST is like a REST");
        twins("t0,0;r0;f9;z0,0,1,0;z1,1,1,0;", 1, 1);
        DUE.sentence("TWINS: of eight sounds");
        twins("t0,0;p9;p9;p9;p9;p9;p9;p9;p9;z0,7,1,0;z7,0,1,20;", 1, 1);
    }

    private static void felt(String tape, int door, int many, int which) {
        StairTunes x = Due.townOf(tape);
        DUE.is("how many, " + tape + " at " + door, x.felt(0, door, 0), many);
        DUE.is("which, " + tape + " at " + door, x.felt(0, door, 1), which);
    }

    private static void promise25() {
        DUE.sentence("FELT: 0 of no TREADS, where nothing of his WALK is HEARD");
        felt("t0,0;p1;p2;z0,0,1,0;", 1, 0, 0);
        felt("t0,9;r1;f2;z0,1,1,0;", 0, 0, 0);
        DUE.sentence("FELT: one, the first and the last TREAD");
        felt(STAIRS + "z0,7,1,0;", 0, 1, 1);
        felt(STAIRS + "z0,7,1,0;", 7, 1, 128);
        DUE.sentence("FELT: all eight");
        felt(STAIRS.replace("t0,0", "t0,9") + "z0,7,1,0;", 3, 8, 255);
        DUE.sentence("FELT: those he steps on alone");
        felt(STAIRS.replace("t0,0", "t0,9") + "z0,7,2,0;", 3, 5, 1 + 4 + 16 + 64 + 128);
        DUE.sentence("FELT: those that are REACH or less from it alone");
        felt(STAIRS.replace("t0,0", "t0,1") + "z0,7,1,0;", 3, 3, 4 + 8 + 16);
        DUE.sentence("FELT: the fewest: none that do not sound");
        felt("t0,9;p1;r2;f3;l4;z0,3,1,0;", 0, 2, 9);
        DUE.sentence("FELT: a note 0 sounds, too");
        felt("t0,0;p0;z0,0,1,0;", 0, 1, 1);
        DUE.sentence("FELT: on this DAY: the way of this DAY");
        StairTunes x = Due.townOf(STAIRS + "z0,7,2,0;");
        DUE.is("there", x.felt(0, 2, 0), 1);
        x.days(1);
        DUE.is("back", x.felt(0, 2, 0), 0);
        DUE.sentence("FELT: nothing of his WALK, whatever others sound there");
        felt("t0,0;p5;r0;z1,1,1,0;z0,0,1,0;", 0, 0, 0);
        felt("t0,1;p5;p5;z0,0,1,0;z1,1,1,0;", 0, 1, 1);
    }

    private static void promise25ByStep3() {
        DUE.sentence("FELT: NONE: what is felted sounds by STEP 3");
        felt("t0,0;p9;z0,0,3,0;", 0, NONE, NONE);
        felt("t0,0;f9;z0,0,3,0;", 0, NONE, NONE);
        felt("t0,0;p0;z0,0,3,0;", 0, NONE, NONE);
        DUE.sentence("FELT: 0 by STEP 3, where all is rotten, or too far");
        felt("t0,0;r9;p0;z0,0,3,0;", 0, 0, 0);
        felt("t0,0;p9;p0;z0,0,3,0;", 1, 0, 0);
    }

    private static void doors(String tape, int many, int which) {
        StairTunes x = Due.townOf(tape);
        DUE.is("how many, " + tape, x.doors(0), many);
        DUE.is("which, " + tape, x.doors(1), which);
    }

    private static void promise26() {
        DUE.sentence("DOORS: one, the first and the last TREAD");
        doors("t0,0;p1;p1;z0,0,1,0;", 1, 1);
        doors("t0,0;r1;r1;r1;r1;r1;r1;r1;p1;z0,7,1,0;", 1, 128);
        DUE.sentence("DOORS: five");
        doors(STAIRS + "z0,0,1,0;z2,2,1,0;z4,4,1,0;z6,6,1,0;z7,7,1,0;", 5, 1 + 4 + 16 + 64 + 128);
        DUE.sentence("DOORS: of several the least (bits)");
        doors("t0,0;p1;p1;p1;p1;z0,1,1,0;z2,3,1,0;z1,3,2,0;", 2, 6);
        doors("t0,9;p1;p1;p1;z2,2,1,0;", 1, 1);
        DUE.sentence("DOORS: the fewest, be its bits greater");
        doors("t0,0;p1;p1;p1;z0,2,2,0;z1,2,1,0;", 1, 4);
        DUE.sentence("DOORS: REACH or less");
        doors(STAIRS.replace("t0,0", "t0,3") + "z0,0,1,0;z6,6,1,0;", 1, 8);
        doors(STAIRS.replace("t0,0", "t0,3") + "z0,0,1,0;z7,7,1,0;", 2, 1 + 16);
        DUE.sentence("DOORS: NONE: one is a REST all the way");
        doors("t0,9;p1;r1;z0,0,1,0;z1,1,1,0;", NONE, NONE);
        doors("t0,9;p1;f1;z1,1,2,0;z0,0,1,0;", NONE, NONE);
        DUE.sentence("DOORS: something of a WALK: by STEP 3 what is felted is enough, so is note 0");
        doors("t0,0;p1;f0;z1,1,3,0;", 1, 2);
    }

    private static void planed(String tape, int which, int many) {
        StairTunes x = Due.townOf(tape);
        DUE.is("which, " + tape, x.planed(0), which);
        DUE.is("how many, " + tape, x.planed(1), many);
    }

    private static void promise27() {
        DUE.sentence("PLANE: of several the first: TREAD 0, NOTE 0");
        planed("t0,0;p9;z0,0,1,0;", 0, 0);
        DUE.sentence("PLANE: of several the first by NOTE: the first that is unlike");
        planed("t0,0;p0;p0;p1;p2;r0;z0,0,1,0;z1,1,1,0;z2,2,1,0;z3,3,1,0;z4,4,1,0;", 3, 0);
        // By half of NOTES 0 to 5 the felted one sounds as one of three on the loose one does.
        planed("t15,0;f4;l0;z1,1,2,0;z1,1,3,0;z0,1,3,0;z0,0,3,0;z1,1,1,0;", 6, 0);
        DUE.sentence("PLANE: the last TREAD alone helps");
        planed("t0,0;r0;r0;r0;r0;r0;r0;r0;l9;z7,7,1,0;z7,7,2,0;", 70, 0);
        DUE.sentence("PLANE: of several the first by TREAD, though a lesser NOTE of a later one would do");
        planed("t0,0;p0;p0;z0,0,1,0;z1,1,1,0;", 1, 0);
        DUE.sentence("PLANE: nothing helps: 0, and how many there are");
        planed("t0,0;r5;z0,0,1,0;z0,0,1,0;z0,0,1,0;z0,0,1,0;z0,0,1,0;", 0, 10);
        DUE.sentence("PLANE: planed it is not WORN: what it is now may be worse than its own NOTE");
        StairTunes x = Due.townOf("t0,0;p1;p0;r0;z0,0,1,0;z1,1,1,0;z2,2,1,0;");
        x.days(10);
        DUE.is("twins now", x.twins(0), 1);
        DUE.is("which", x.planed(0), 1);
        DUE.is("how many", x.planed(1), 0);
        DUE.sentence("PLANE: one TREAD alone: the NOTE of one that was tried is as it was for the next");
        planed("t15,0;p5;s6;p4;p4;z0,0,1,0;z1,1,1,0;z2,2,1,0;z3,3,1,0;", 0, 1);
        DUE.sentence("PLANE: one TREAD alone: one that was tried is WORN as it was for the next");
        x = Due.townOf("t0,0;p5;f9;p8;p8;z0,0,1,0;z1,1,3,0;z2,2,1,0;z3,3,1,0;");
        x.days(10);
        DUE.is("which", x.planed(0), 0);
        DUE.is("how many", x.planed(1), 1);
        DUE.sentence("PLANE: others are WORN as they are");
        x = Due.townOf("t0,0;r0;p1;p0;z1,1,1,0;z2,2,1,0;z0,0,1,0;z0,0,1,0;");
        x.days(10);
        DUE.is("which", x.planed(0), 11);
        DUE.is("how many", x.planed(1), 1);
        DUE.sentence("PLANE: nothing is planed by it");
        DUE.is("note", x.tread(1, 0), 1);
        DUE.is("worn", x.tread(1, 1), 10);
    }

    private static void rise(String tape, int door, int n, int many, int first) {
        StairTunes x = Due.townOf(tape);
        DUE.is("how many of " + n + ", " + tape, x.rise(0, door, n, 0), many);
        DUE.is("the first of " + n + ", " + tape, x.rise(0, door, n, 1), first);
    }

    private static void promise28() {
        DUE.sentence("RISE: all 63 of STEPS 1 to 3 and STARTS 0 to 20: the first is 100");
        rise("t0,0;p5;z0,0,2,7;", 0, 1, 63, 100);
        DUE.sentence("RISE: the last alone: 320");
        rise("t0,1;p1;r0;r0;f8;p9;r0;p2;p3;z0,7,1,0;z5,4,1,20;", 3, 2, 1, 320);
        DUE.sentence("RISE: NONE: none");
        rise("t0,0;r5;z0,0,1,0;", 0, 1, 0, NONE);
        DUE.sentence("RISE: by each STEP: a felted one sounds by 3 alone");
        rise("t0,0;f5;z0,0,1,0;", 0, 1, 21, 300);
        DUE.sentence("RISE: 20 is the last START of each STEP");
        rise("t0,0;r5;p6;z0,0,1,0;z1,1,1,20;", 1, 1, 3, 120);
        DUE.sentence("RISE: n notes or more: five, of all WALKERS");
        String five = "t0,9;p1;p2;p3;p4;p5;z0,0,1,9;z1,1,1,4;z2,2,1,4;z3,3,1,4;z4,4,1,4;";
        for (int n = 1; n <= 5; n++) {
            rise(five, 0, n, n == 1 ? 63 : 3, n == 1 ? 100 : 104);
        }
        DUE.sentence("RISE: n above what there are: none");
        for (int n = 6; n <= 9; n++) {
            rise(five, 0, n, 0, NONE);
        }
    }

    private static void promise28Edges() {
        DUE.sentence("RISE: some MINUTE of his WALK: the first and the last of it, none ahead or behind");
        StairTunes x = Due.townOf("t0,0;r0;r0;r0;p7;z0,2,1,0;z3,3,1,10;");
        // His WALK has 3 MINUTES by STEP 1, and 2 by STEPS 2 and 3.
        DUE.is("how many", x.rise(0, 3, 1, 0), 3 + 2 + 2);
        DUE.is("the first", x.rise(0, 3, 1, 1), 108);
        DUE.is("of the other", x.rise(1, 3, 1, 0), 63);
        DUE.sentence("RISE: HEARD at the told TREAD: by REACH");
        DUE.is("too far", x.rise(0, 2, 1, 0), 0);
        x.reach(1);
        DUE.is("near enough", x.rise(0, 2, 1, 0), 7);
        DUE.sentence("RISE: like notes are one");
        rise("t0,9;p5;p5;z0,0,1,0;z1,1,1,0;", 0, 2, 0, NONE);
        DUE.sentence("RISE: the STEP and START he has are none he must have; they stay");
        x = Due.townOf("t0,0;p5;z0,0,2,7;");
        x.rise(0, 0, 1, 0);
        DUE.is("step", x.walker(0, 2), 2);
        DUE.is("start", x.walker(0, 3), 7);
    }

    private static void rots(StairTunes x, int walker, int tread, int p, long above, long below) {
        DUE.is("above, " + walker + " at " + tread + " by " + p, x.rots(walker, tread, p, 0), above);
        DUE.is("below, " + walker + " at " + tread + " by " + p, x.rots(walker, tread, p, 1), below);
    }

    private static void promise31() {
        DUE.sentence("ROTS by 0 of 10: 1 by 1, where something is HEARD");
        StairTunes x = Due.townOf("t0,0;p0;r5;f5;z0,0,1,0;z1,1,1,0;z2,2,1,0;z2,2,3,0;");
        rots(x, 0, 0, 0, 1, 1);
        DUE.sentence("ROTS by 10 of 10: 0 by 1");
        rots(x, 0, 0, 10, 0, 1);
        DUE.sentence("ROTS: 0 is 0 by 1: on a rotten one, whatever p is");
        for (int p = 0; p <= 10; p++) {
            rots(x, 1, 1, p, 0, 1);
        }
        DUE.sentence("ROTS: 0 is 0 by 1: on a felted one by STEP 1");
        for (int p = 0; p <= 10; p++) {
            rots(x, 2, 2, p, 0, 1);
        }
        DUE.sentence("ROTS: 1 by 1: a felted one by STEP 3 is rotten in no case");
        for (int p = 0; p <= 10; p++) {
            rots(x, 3, 2, p, 1, 1);
        }
        DUE.sentence("ROTS: 0 is 0 by 1: too far to be HEARD");
        for (int p = 0; p <= 10; p++) {
            rots(x, 0, 1, p, 0, 1);
        }
        DUE.sentence("ROTS: soft and loose ones rot, too");
        x = Due.townOf("t15,0;s0;l5;z0,0,1,0;z1,1,2,0;");
        rots(x, 0, 0, 3, 7, 10);
        rots(x, 1, 1, 3, 7, 10);
    }

    private static void promise31TheFraction() {
        DUE.sentence("ROTS: a fraction in lowest terms");
        StairTunes x = Due.townOf("t0,0;p0;z0,0,1,0;");
        long[] above = {1, 9, 4, 7, 3, 1, 2, 3, 1, 1, 0};
        long[] below = {1, 10, 5, 10, 5, 2, 5, 10, 5, 10, 1};
        for (int p = 0; p <= 10; p++) {
            rots(x, 0, 0, p, above[p], below[p]);
        }
        DUE.sentence("ROTS: apart: of two TREADS both must be rotten");
        x = Due.townOf("t0,1;p0;p0;r0;z0,2,1,0;");
        rots(x, 0, 0, 5, 3, 4);
        rots(x, 0, 1, 4, 21, 25);
        rots(x, 0, 2, 4, 3, 5);
        DUE.sentence("ROTS: of eight TREADS: numbers up to 100000000");
        x = Due.townOf("t0,9;p0;p1;p2;p3;p4;p5;p6;p7;z0,7,1,0;");
        rots(x, 0, 0, 1, 99999999, 100000000);
        rots(x, 0, 0, 3, 100000000 - 6561, 100000000);
        rots(x, 0, 7, 5, 255, 256);
        rots(x, 0, 7, 2, 390624, 390625);
        rots(x, 0, 7, 8, 390625 - 65536, 390625);
        rots(x, 0, 7, 0, 1, 1);
        rots(x, 0, 7, 10, 0, 1);
        DUE.sentence("ROTS: how likely something of the WALK of one is HEARD, whatever others sound there");
        x = Due.townOf("t0,9;p5;p5;z0,0,1,0;z1,1,1,0;");
        rots(x, 0, 0, 5, 1, 2);
    }

    private static void promise32() {
        DUE.sentence("WEEKS of 0 DAYS: none stepped; TONES as they are");
        StairTunes x = Due.townOf("t0,0;p9;s5;z0,1,1,0;");
        DUE.is("steps", x.drawn(0, 1, 0), 0);
        DUE.is("tones", x.drawn(0, 999999, 1), 14);
        DUE.sentence("WEEKS of 60 DAYS: how often anybody stepped on anything that sounded");
        DUE.is("steps", x.drawn(60, 1, 0), 120);
        DUE.is("steps of none", Due.townOf("t0,0;r9;f9;z0,1,1,0;").drawn(60, 1, 0), 0);
        DUE.is("steps of most", Due.townOf("t0,0;p9;p9;p9;p9;p9;p9;p9;p9;z0,7,1,0;z0,7,1,0;z0,7,1,0;z7,0,1,9;z0,7,1,0;")
                .drawn(60, 999999, 0), 2400);
        DUE.sentence("WEEKS: felted ones sound by STEP 3");
        DUE.is("steps", Due.townOf("t0,0;f9;f0;r0;z0,1,3,0;z0,2,1,0;").drawn(5, 7, 0), 10);
        DUE.sentence("WEEKS: FROM and TO are exchanged on each DAY");
        DUE.is("steps", Due.townOf("t0,0;p9;r9;r9;p9;r9;z0,4,3,0;").drawn(1, 1, 0), 2);
        DUE.is("steps", Due.townOf("t0,0;p9;r9;r9;p9;r9;z0,4,3,0;").drawn(2, 1, 0), 3);
        DUE.sentence("WEEKS: TONES then: worn by the DAYS, 0 at least");
        x = Due.townOf("t0,0;p9;r1;p2;p2;z0,1,1,0;z2,2,1,0;z2,2,1,0;");
        // By seed 1 nothing is planed in six DAYS.
        DUE.is("tones in 6", x.drawn(6, 1, 1), 9 + 1 + 1 + 2);
        x.days(4);
        DUE.is("tones in 6 more", x.drawn(6, 1, 1), 8 + 0 + 0 + 2);
        DUE.sentence("WEEKS: beyond DAY 999, that days() alone refuses");
        x = Due.townOf("t0,0;p9;z0,0,1,0;");
        for (int k = 0; k < 41; k++) {
            x.days(24);
        }
        x.days(15);
        DUE.is("steps", x.drawn(60, 1, 0), 60);
        DUE.is("day", x.count(3), 999);
    }

    private static void promise32ByTheRests() {
        DUE.sentence("WEEKS: ahead of each: X becomes the rest of (X times 16807) by 2147483647; planed, if 3 divides it");
        // By seed 1: 16807, 282475249, 1622650073, 984943658, 1144108930, 470211272, and 101027544, that 3 divides.
        StairTunes x = Due.townOf("t0,0;p9;p9;p9;p9;p9;p9;p9;z0,0,1,0;");
        DUE.is("tones in 6", x.drawn(6, 1, 1), 63);
        DUE.is("tones in 7", x.drawn(7, 1, 1), 54 + 4);
        DUE.sentence("WEEKS: the TREAD that is the rest of X by how many there are");
        // 101027544 by 7 leaves 2, by 8 leaves 0, by 5 leaves 4.
        x = Due.townOf("t0,0;p0;p0;p9;p0;p0;p0;p0;z0,0,1,0;");
        DUE.is("tones of 7", x.drawn(7, 1, 1), 4);
        x = Due.townOf("t0,0;p9;p0;p0;p0;p0;p0;p0;p0;z1,1,1,0;");
        DUE.is("tones of 8", x.drawn(7, 1, 1), 4);
        x = Due.townOf("t0,0;p0;p0;p0;p0;p9;z0,0,1,0;");
        DUE.is("tones of 5", x.drawn(7, 1, 1), 4);
        DUE.sentence("WEEKS: planed it is not WORN");
        x = Due.townOf("t0,0;p9;z0,0,1,0;z0,0,1,0;z0,0,1,0;z0,0,1,0;z0,0,1,0;");
        DUE.is("tones in 6", x.drawn(6, 1, 1), 6);
        DUE.is("tones in 7", x.drawn(7, 1, 1), 4);
        DUE.sentence("WEEKS: planed ahead of the DAY, so it is worn by it");
        x.days(1);
        x.plane(0, 9);
        DUE.is("tones in 8", x.drawn(8, 1, 1), 3);
        DUE.sentence("WEEKS: a START that is drawn makes none sound more or less");
        x = Due.townOf("t0,0;p9;z0,0,1,20;");
        for (int n = 1; n <= 60; n += 7) {
            DUE.is("steps in " + n, x.drawn(n, 123456, 0), n);
        }
        DUE.is("start", x.walker(0, 3), 20);
    }

    private static void promise33And34() {
        StairTunes x = Due.townOf("t5,2;s9;l5;z0,1,1,3;");
        DUE.sentence("Promise 34: STATE: none was kept: of 0 and of 1");
        DUE.is("restore(0)", x.restore(0), STATE);
        DUE.is("restore(1)", x.restore(1), STATE);
        DUE.sentence("Promise 33: IMAGES 0 and 1, apart");
        DUE.is("image(1)", x.image(1), 1);
        DUE.is("restore(0)", x.restore(0), STATE);
        x.days(2);
        x.plane(1, 7);
        x.reach(4);
        x.way(0, 1, 1);
        x.gait(0, 3, 20);
        DUE.is("image(0)", x.image(0), 1);
        DUE.sentence("Promise 33: the ACTS stay");
        DUE.is("acts", x.count(6), 6);
        DUE.sentence("Promise 34: The TOWN is as an IMAGE kept it");
        DUE.is("restore(1)", x.restore(1), 1);
        int[] first = {9, 5, 0, 0, 0, 1, 1, 3, 0, 1, 2};
        int[] then = {9, 7, 2, 0, 1, 1, 3, 20, 2, 1, 4};
        isSo(x, first);
        DUE.is("restore(0)", x.restore(0), 1);
        isSo(x, then);
        DUE.sentence("Promise 34: no ACT can be undone then");
        x.reach(0);
        x.restore(0);
        DUE.is("acts", x.count(6), 0);
        DUE.is("undo", x.undo(), STATE);
        DUE.sentence("Promise 34: what comes then leaves the IMAGE as it is");
        x.days(3);
        x.plane(0, 0);
        x.restore(0);
        isSo(x, then);
        DUE.sentence("Promise 33: an IMAGE in place of the one before");
        x.plane(1, 1);
        x.image(1);
        x.plane(1, 2);
        x.restore(1);
        DUE.is("note", x.tread(1, 0), 1);
        DUE.sentence("Promise 34: a TOWN of other TREADS and WALKERS comes back whole");
        Due.tell(x, "t0,0;r0;r0;r0;r0;z0,0,2,0;z0,0,2,0;");
        x.restore(0);
        isSo(x, then);
        DUE.is("treads", x.count(1), 2);
        DUE.is("walkers", x.count(2), 1);
        DUE.is("kind", x.kind(1), 3);
        DUE.sentence("Promise 34: ROWS, the tape and fault() stay");
        x.row(0, 0, 3);
        x.feed('t');
        x.restore(0);
        DUE.is("rows", x.count(0), 1);
        DUE.is("bytes", x.count(7), 1);
    }

    /** NOTES and WORN of two TREADS, all of one WALKER, DAY, whether it is wet, and REACH. */
    private static void isSo(StairTunes x, int... due) {
        int[] are = {x.tread(0, 0), x.tread(1, 0), x.tread(0, 1), x.tread(1, 1), x.walker(0, 0), x.walker(0, 1),
            x.walker(0, 2), x.walker(0, 3), x.count(3), x.count(4), x.count(5)};
        for (int k = 0; k < are.length; k++) {
            DUE.is("part " + k, are[k], due[k]);
        }
    }

    private static void nothingChanges() {
        DUE.sentence("FORETOLD (nothing changes)");
        for (int k = 0; k < 13; k++) {
            for (int what = 0; what < 2; what++) {
                StairTunes x = Scene.rich();
                foretell(x, k, what);
                DUE.is("foretold " + k + ", " + what, Scene.seen(x).equals(Scene.seen(Scene.rich())));
            }
        }
    }

    private static void foretell(StairTunes x, int k, int what) {
        switch (k) {
            case 0: x.ahead(0, 60, what); break;
            case 1: x.length(what); break;
            case 2: x.meet(0, 1 + what); break;
            case 3: x.choir(what); break;
            case 4: x.twins(what); break;
            case 5: x.felt(0, 0, what); break;
            case 6: x.doors(what); break;
            case 7: x.planed(what); break;
            case 8: x.rise(0, 0, 1, what); break;
            case 9: x.what(0, what, 0, 0, 2, 0, 12); break;
            case 10:
                x.who(0, what, 0, 0, 2, 0, 12);
                x.who(1, 2 + what, 0, 0, 2, 0, 1);
                break;
            case 11: x.rots(0, 0, 5, what); break;
            default: x.drawn(60, 999999, what); break;
        }
    }
}
