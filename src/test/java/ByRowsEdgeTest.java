/** Promises 29 and 30, sentence by sentence: what fits that which a ROW tells, at the edges of both. */
public final class ByRowsEdgeTest {
    private static final int PLACE = -1000012;
    private static final String STAIRS = "t0,0;p0;p1;p2;p3;p4;p5;p6;p7;";
    private static final int ALL_STARTS = (1 << 21) - 1;
    private static final Due DUE = new Due();

    public static void main(String[] args) {
        placesOfARow();
        itemsOfEachLane();
        minutesToTheLastAndBeyond();
        twelveMinutes();
        kinds();
        kindsByWearWetAndStep();
        notes();
        notesByKind();
        froms();
        tos();
        steps();
        starts();
        nothingStaysTried();
        DUE.end();
    }

    private static void lay(StairTunes x, int row, int lane, int... items) {
        x.row(row, lane, items.length);
        for (int i = 0; i < items.length; i++) {
            x.set(row, i, items[i]);
        }
    }

    /** KINDS of TREAD 0 (which = 0), or its NOTES, by what is HEARD at it from MINUTE 0 on. */
    private static int fits(StairTunes x, int which, int... items) {
        lay(x, 7, 2, items);
        return x.what(0, which, 0, 0, 7, 0, items.length);
    }

    private static void placesOfARow() {
        StairTunes x = Due.townOf("t0,0;p3;z0,0,1,0;");
        DUE.sentence("n ITEMS of a ROW from i on: the first, the last, all of 40 that 12 at once can be");
        x.row(0, 2, 40);
        for (int i = 0; i < 40; i++) {
            DUE.is("item " + i, x.what(0, 1, 0, 9, 0, i, 1), 1023);
        }
        for (int i = 0; i <= 28; i++) {
            DUE.is("twelve from " + i, x.what(0, 1, 0, 9, 0, i, 12), 1023);
        }
        x.set(0, 39, 8);
        DUE.is("the last is told", x.what(0, 1, 0, 0, 0, 39, 1), 8);
        DUE.is("the last of twelve is told", x.what(0, 1, 0, 9, 0, 28, 12), 0);
        DUE.is("the last is not among them", x.what(0, 1, 0, 9, 0, 27, 12), 1023);
        DUE.sentence("n ITEMS of a ROW from i on: beyond the end by one");
        DUE.is("what", x.what(0, 1, 0, 9, 0, 29, 12), PLACE);
        DUE.is("who", x.who(0, 0, 0, 9, 0, 29, 12), PLACE);
        DUE.is("what", x.what(0, 1, 0, 9, 0, 40, 1), PLACE);
        DUE.is("who", x.who(0, 0, 0, 9, 0, 40, 1), PLACE);
        DUE.sentence("n ITEMS from i on tell of n MINUTES from MINUTE on: the first of the first");
        lay(x, 1, 0, 0, 0, 8, 0);
        DUE.is("item 2 for minute 0", x.what(0, 1, 0, 0, 1, 2, 2), 8);
        DUE.is("item 1 for minute 0", x.what(0, 1, 0, 0, 1, 1, 2), 0);
        DUE.is("who, item 2 for minute 5", x.who(0, 3, 0, 5, 1, 2, 2), 1 << 5);
        DUE.is("who, items from 0 on for minutes from 5 on", x.who(0, 3, 0, 5, 1, 0, 4), 1 << 7);
    }

    private static void itemsOfEachLane() {
        DUE.sentence("ITEMS of each LANE tell bits; those of bytes to note 6 alone, read with their sign");
        for (int lane = 0; lane < 3; lane++) {
            StairTunes x = Due.townOf("t0,0;p0;z0,0,1,0;");
            for (int note = 0; note <= 9; note++) {
                lay(x, lane, lane, 1 << note);
                int due = lane > 0 || note < 7 ? 1 << note : 0;
                DUE.is("notes by " + note + " of lane " + lane, x.what(0, 1, 0, 0, lane, 0, 1), due);
            }
        }
        DUE.sentence("ITEMS that are no notes: nothing fits");
        StairTunes x = Due.townOf("t0,0;p0;z0,0,1,0;");
        for (int item : new int[] {1024, -1, Integer.MIN_VALUE, Integer.MAX_VALUE, 1025, 3, -1023}) {
            DUE.is("kinds by " + item, fits(x, 0, item), 0);
            DUE.is("notes by " + item, fits(x, 1, item), 0);
            for (int which = 0; which < 4; which++) {
                DUE.is("who by " + item, x.who(0, which, 0, 0, 7, 0, 1), 0);
            }
        }
    }

    private static void minutesToTheLastAndBeyond() {
        DUE.sentence("MINUTE 29, n 12: nothing is HEARD there, nor beyond");
        StairTunes x = Due.townOf("t0,9;l5;p1;z0,1,1,20;z1,1,3,20;");
        x.row(0, 2, 12);
        DUE.is("kinds", x.what(0, 0, 0, 29, 0, 0, 12), 62);
        DUE.is("notes", x.what(0, 1, 0, 29, 0, 0, 12), 1023);
        DUE.is("froms", x.who(0, 0, 0, 29, 0, 0, 12), 3);
        DUE.is("tos", x.who(0, 1, 0, 29, 0, 0, 12), 3);
        DUE.is("steps", x.who(0, 2, 0, 29, 0, 0, 12), 14);
        DUE.is("starts", x.who(0, 3, 0, 29, 0, 0, 12), ALL_STARTS);
        DUE.sentence("MINUTE 29, n 12: what is told there, or beyond, does not fit");
        x.set(0, 11, 1);
        DUE.is("kinds", x.what(0, 0, 0, 29, 0, 0, 12), 0);
        DUE.is("notes", x.what(0, 1, 0, 29, 0, 0, 12), 0);
        DUE.is("starts", x.who(0, 3, 0, 29, 0, 0, 12), 0);
        DUE.is("eleven of them", x.who(0, 3, 0, 29, 0, 0, 11), ALL_STARTS);
        DUE.sentence("MINUTES 20 to 27: START 20 and eight TREADS");
        x = Due.townOf(STAIRS + "z0,7,1,20;");
        lay(x, 0, 2, 0, 128, 0);
        DUE.is("starts", x.who(0, 3, 7, 26, 0, 0, 3), 1 << 20);
        DUE.is("notes of 7", x.what(7, 1, 7, 26, 0, 0, 3), 128);
    }

    private static void twelveMinutes() {
        DUE.sentence("n 1 to 12: each of the MINUTES must be so");
        StairTunes x = Due.townOf("t0,9;p0;p1;p2;p3;p4;p5;p6;p7;z0,7,1,2;");
        int[] heard = new int[12];
        for (int k = 0; k < 8; k++) {
            heard[2 + k] = 1 << k;
        }
        lay(x, 0, 2, heard);
        DUE.is("starts", x.who(0, 3, 0, 0, 0, 0, 12), 4);
        DUE.is("froms", x.who(0, 0, 0, 0, 0, 0, 12), 1);
        DUE.is("tos", x.who(0, 1, 0, 0, 0, 0, 12), 128);
        DUE.is("steps", x.who(0, 2, 0, 0, 0, 0, 12), 2);
        DUE.is("notes of 7", x.what(7, 1, 0, 0, 0, 0, 12), 128);
        DUE.is("kinds of 7", x.what(7, 0, 0, 0, 0, 0, 12), 14);
        for (int i = 0; i < 12; i++) {
            x.set(0, i, heard[i] ^ 512);
            DUE.is("but for item " + i, x.who(0, 3, 0, 0, 0, 0, 12), 0);
            x.set(0, i, heard[i]);
        }
        DUE.is("so again", x.who(0, 3, 0, 0, 0, 0, 12), 4);
    }

    private static void kinds() {
        DUE.sentence("KINDS (bits 1 to 5): all, where nobody is");
        StairTunes x = Due.townOf("t0,0;p3;p3;z1,1,1,0;");
        DUE.is("all", fits(x, 0, 0), 62);
        DUE.sentence("KINDS: each by STEP 1");
        x = Due.townOf("t1,0;p3;z0,0,1,0;");
        DUE.is("tone", fits(x, 0, 8), 2 + 8);
        DUE.is("one less", fits(x, 0, 4), 4);
        DUE.is("nothing", fits(x, 0, 0), 16 + 32);
        DUE.is("another", fits(x, 0, 1), 0);
        DUE.sentence("KINDS: each by STEP 3");
        x = Due.townOf("t1,0;r3;z0,0,3,0;");
        DUE.is("plain", fits(x, 0, 8), 2);
        DUE.is("soft", fits(x, 0, 4), 4);
        DUE.is("loose", fits(x, 0, 32), 8);
        DUE.is("rotten", fits(x, 0, 0), 16);
        DUE.is("felted", fits(x, 0, 2), 32);
        DUE.sentence("KINDS: of the TREAD alone, others are as they are");
        x = Due.townOf("t0,1;p3;p5;z0,0,1,0;z1,1,1,0;");
        DUE.is("both", fits(x, 0, 8 + 32), 14);
        DUE.is("the other", fits(x, 0, 32), 48);
    }

    private static void kindsByWearWetAndStep() {
        DUE.sentence("KINDS: by TONE as it is WORN, and this DAY");
        StairTunes x = Due.townOf("t2,0;f9;z0,0,3,0;");
        x.days(21);
        DUE.is("tone 7, wet: soft", fits(x, 0, 64), 4);
        DUE.is("tone 7: plain", fits(x, 0, 128), 2);
        DUE.is("tone 7: loose by 3", fits(x, 0, 512), 8);
        DUE.is("tone 7: felted by 3", fits(x, 0, 8), 32);
        DUE.sentence("KINDS: soft and felted at 0, loose at 9");
        x = Due.townOf("t1,0;p0;z0,0,3,0;");
        DUE.is("0", fits(x, 0, 1), 2 + 4 + 32);
        x = Due.townOf("t0,0;p9;z0,0,3,0;");
        DUE.is("9", fits(x, 0, 512), 2 + 4 + 8);
    }

    private static void notes() {
        DUE.sentence("NOTES (0 to 9, bits): all, where nobody is, or it is rotten");
        StairTunes x = Due.townOf("t0,0;p3;p3;z1,1,1,0;");
        DUE.is("all", fits(x, 1, 0), 1023);
        DUE.is("rotten", fits(Due.townOf("t0,0;r3;z0,0,1,0;"), 1, 0), 1023);
        DUE.is("felted by 2", fits(Due.townOf("t0,0;f3;z0,0,2,0;"), 1, 0), 1023);
        DUE.sentence("NOTES: each of a plain one");
        x = Due.townOf("t0,0;p3;z0,0,1,0;");
        for (int note = 0; note <= 9; note++) {
            DUE.is("note " + note, fits(x, 1, 1 << note), 1 << note);
        }
        DUE.is("nothing", fits(x, 1, 0), 0);
        DUE.sentence("NOTES: WORN as it is");
        x.days(24);
        for (int tone = 0; tone <= 9; tone++) {
            DUE.is("tone " + tone, fits(x, 1, 1 << tone), tone == 0 ? 1 + 2 + 4 : tone <= 7 ? 1 << tone + 2 : 0);
        }
        DUE.sentence("NOTES: WORN as it is: 99 times");
        x.days(24);
        x.days(24);
        x.days(24);
        x.days(24);
        DUE.is("all are 0", fits(x, 1, 1), 1023);
    }

    private static void notesByKind() {
        DUE.sentence("NOTES of a soft one on a wet DAY: 0 at least");
        StairTunes x = Due.townOf("t1,0;s3;z0,0,1,0;");
        DUE.is("0", fits(x, 1, 1), 3);
        DUE.is("8", fits(x, 1, 256), 512);
        DUE.is("9", fits(x, 1, 512), 0);
        DUE.sentence("NOTES of a loose one by STEP 3: 9 at most");
        x = Due.townOf("t0,0;l3;z0,0,3,0;");
        DUE.is("9", fits(x, 1, 512), 128 + 256 + 512);
        DUE.is("2", fits(x, 1, 4), 1);
        DUE.is("1", fits(x, 1, 2), 0);
        DUE.sentence("NOTES of a felted one by STEP 3: half, cut");
        x = Due.townOf("t0,0;f3;z0,0,3,0;");
        for (int half = 0; half <= 4; half++) {
            DUE.is("half " + half, fits(x, 1, 1 << half), 3 << 2 * half);
        }
        DUE.is("half 5", fits(x, 1, 32), 0);
    }

    private static int who(StairTunes x, int which, int door, int minute, int... items) {
        lay(x, 7, 1, items);
        return x.who(0, which, door, minute, 7, 0, items.length);
    }

    private static void froms() {
        DUE.sentence("FROMS (TREADS, bits): all eight, where nothing is HEARD");
        StairTunes x = Due.townOf(STAIRS + "z3,7,1,0;");
        DUE.is("all", who(x, 0, 7, 29, 0), 255);
        DUE.sentence("FROMS: the first and the last");
        DUE.is("first", who(x, 0, 0, 0, 1), 1);
        DUE.is("last", who(x, 0, 7, 0, 128), 128);
        DUE.sentence("FROMS: by the rest of the WALK to TO");
        DUE.is("at 7 in minute 4", who(x, 0, 7, 4, 128), 8);
        DUE.is("at 7 in minute 7", who(x, 0, 7, 7, 128), 1);
        DUE.is("not at 7 in minutes 0 to 2", who(x, 0, 7, 0, 0, 0, 0), 1 + 2 + 4 + 8 + 16);
        DUE.sentence("FROMS: of three TREADS three at most");
        DUE.is("all", who(Due.townOf("t0,0;p0;p1;p2;z0,0,1,0;"), 0, 0, 20, 0), 7);
    }

    private static void tos() {
        DUE.sentence("TOS (TREADS, bits): all eight, where nothing is HEARD");
        StairTunes x = Due.townOf(STAIRS + "z3,7,1,0;");
        DUE.is("all", who(x, 1, 7, 29, 0), 255);
        DUE.is("by FROM alone", who(x, 1, 3, 0, 8), 255);
        DUE.sentence("TOS: the first and the last");
        DUE.is("first", who(x, 1, 0, 3, 1), 1);
        DUE.is("last", who(x, 1, 7, 4, 128), 128);
        DUE.sentence("TOS: up, down, or none");
        DUE.is("up", who(x, 1, 4, 1, 16), 16 + 32 + 64 + 128);
        DUE.is("down", who(x, 1, 2, 1, 4), 1 + 2 + 4);
        DUE.is("only FROM", who(x, 1, 3, 0, 8, 0), 255);
        DUE.is("nowhere", who(x, 1, 5, 1, 32), 0);
    }

    private static void steps() {
        DUE.sentence("STEPS (1 to 3, bits): all three");
        StairTunes x = Due.townOf(STAIRS + "z0,7,1,0;");
        DUE.is("all", who(x, 2, 0, 0, 1), 14);
        DUE.sentence("STEPS: each alone");
        DUE.is("1", who(x, 2, 1, 1, 2), 2);
        DUE.is("2", who(x, 2, 2, 1, 4), 4);
        DUE.is("3", who(x, 2, 3, 1, 8), 8);
        DUE.sentence("STEPS: none");
        DUE.is("none", who(x, 2, 4, 1, 16), 0);
        DUE.sentence("STEPS: by the last step cut short");
        DUE.is("at 7 in minute 3", who(x, 2, 7, 3, 128), 8);
        DUE.is("at 7 in minute 4", who(x, 2, 7, 4, 128), 4);
        DUE.sentence("STEPS: by how a loose and a felted one sound");
        DUE.is("loose", who(Due.townOf("t0,0;l8;z0,0,1,0;"), 2, 0, 0, 512), 4 + 8);
        DUE.is("felted", who(Due.townOf("t0,0;f8;z0,0,1,0;"), 2, 0, 0, 16), 8);
    }

    private static void starts() {
        DUE.sentence("STARTS (0 to 20, bits): all, where nothing is HEARD");
        StairTunes x = Due.townOf("t0,0;p3;z0,0,1,7;");
        DUE.is("all", who(x, 3, 0, 29, 0), ALL_STARTS);
        DUE.sentence("STARTS: the first and the last");
        DUE.is("0", who(x, 3, 0, 0, 8), 1);
        DUE.is("20", who(x, 3, 0, 20, 8), 1 << 20);
        DUE.sentence("STARTS: none behind 20");
        DUE.is("21", who(x, 3, 0, 21, 8), 0);
        DUE.sentence("STARTS: all but those at which it would be HEARD");
        DUE.is("not in 0 to 11", who(x, 3, 0, 0, new int[12]), ALL_STARTS - 0xfff);
        DUE.sentence("STARTS: of one WALKER, others are as they are");
        x = Due.townOf("t0,0;p3;z0,0,1,7;z0,0,1,4;");
        DUE.is("by the other alone", who(x, 3, 0, 3, 0, 8, 0), ALL_STARTS - 8 - 32);
        DUE.is("not without the other", who(x, 3, 0, 3, 0, 0, 0), 0);
    }

    private static void nothingStaysTried() {
        DUE.sentence("FORETOLD (nothing changes): what is tried by which fits nothing else");
        StairTunes x = Due.townOf("t1,1;s3;p4;z0,1,1,2;z1,0,2,3;");
        lay(x, 0, 2, 4, 16);
        int[] kept = {x.kind(0), x.tread(0, 0), x.walker(0, 0), x.walker(0, 1), x.walker(0, 2), x.walker(0, 3)};
        int notes = x.what(0, 1, 0, 2, 0, 0, 2);
        for (int k = 0; k < 2; k++) {
            x.what(0, 0, 0, 2, 0, 0, 2);
            for (int which = 0; which < 4; which++) {
                x.who(0, which, 0, 2, 0, 0, 2);
            }
        }
        int[] are = {x.kind(0), x.tread(0, 0), x.walker(0, 0), x.walker(0, 1), x.walker(0, 2), x.walker(0, 3)};
        for (int k = 0; k < kept.length; k++) {
            DUE.is("part " + k, are[k], kept[k]);
        }
        DUE.is("notes", x.what(0, 1, 0, 2, 0, 0, 2), notes);
        DUE.sentence("FORETOLD: a shorter row behind a longer one is told by its own ITEMS alone");
        x = Due.townOf("t0,0;p3;z0,0,1,0;");
        lay(x, 0, 2, 0, 0, 0, 64);
        DUE.is("four", x.what(0, 1, 0, 1, 0, 0, 4), 0);
        DUE.is("three", x.what(0, 1, 0, 1, 0, 0, 3), 1023);
        DUE.is("one", x.what(0, 1, 0, 1, 0, 0, 1), 1023);
    }
}
