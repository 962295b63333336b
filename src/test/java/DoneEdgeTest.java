/** The Terms of WALK, TONE, HEARD and DAY, and promises 10 to 19, sentence by sentence, at their edges. */
public final class DoneEdgeTest {
    private static final int NONE = StairTunes.NONE, BAD = StairTunes.BAD, FULL = StairTunes.FULL;
    private static final String STAIRS = "t0,0;p0;p1;p2;p3;p4;p5;p6;p7;";
    private static final Due DUE = new Due();

    public static void main(String[] args) {
        aWalk();
        aWalkInMinutes();
        tones();
        soundsOfPlainAndSoft();
        soundsOfLoose();
        soundsOfRottenAndFelted();
        heardByReach();
        heardIsASet();
        aDay();
        aDayWearsAndExchanges();
        wetDays();
        promise10();
        promise10Full();
        promise11();
        promise12();
        promise13And14();
        promise15();
        promise16();
        promise17();
        promise18();
        promise19();
        DUE.end();
    }

    private static void days(StairTunes x, int n) {
        for (int left = n; left > 0; left -= 24) {
            x.days(Math.min(24, left));
        }
    }

    private static void walk(int from, int to, int step, int... treads) {
        StairTunes x = Due.townOf(STAIRS + "z" + from + "," + to + "," + step + ",0;");
        String text = from + " to " + to + " by " + step;
        DUE.is("length, " + text, x.length(0), treads.length);
        int bits = 0;
        for (int k = 0; k < treads.length; k++) {
            DUE.is("where in " + k + ", " + text, x.where(0, k), treads[k]);
            bits |= 1 << treads[k];
        }
        DUE.is("where then, " + text, x.where(0, treads.length), NONE);
        for (int t = 0; t < 8; t++) {
            DUE.is("steps on " + t + ", " + text, x.tread(t, 3), bits >> t & 1);
        }
        DUE.is("worn, " + text, x.days(1), treads.length);
    }

    private static void aWalk() {
        DUE.sentence("A WALK: FROM is TO: one TREAD");
        for (int step = 1; step <= 3; step++) {
            walk(0, 0, step, 0);
            walk(7, 7, step, 7);
        }
        DUE.sentence("A WALK: to the next TREAD (TO, if it is not so far)");
        for (int step = 1; step <= 3; step++) {
            walk(0, 1, step, 0, 1);
            walk(7, 6, step, 7, 6);
        }
        DUE.sentence("A WALK: STEP treads nearer to TO in each MINUTE, by 1");
        walk(0, 7, 1, 0, 1, 2, 3, 4, 5, 6, 7);
        walk(7, 0, 1, 7, 6, 5, 4, 3, 2, 1, 0);
        DUE.sentence("A WALK that ends on TO by 2, its last step whole");
        walk(0, 6, 2, 0, 2, 4, 6);
        walk(7, 1, 2, 7, 5, 3, 1);
        DUE.sentence("A WALK that ends on TO by 2, its last step cut short");
        walk(0, 7, 2, 0, 2, 4, 6, 7);
        walk(7, 0, 2, 7, 5, 3, 1, 0);
        DUE.sentence("A WALK that ends on TO by 3, its last step whole");
        walk(1, 7, 3, 1, 4, 7);
        walk(6, 0, 3, 6, 3, 0);
        DUE.sentence("A WALK that ends on TO by 3, its last step cut short to 1");
        walk(0, 7, 3, 0, 3, 6, 7);
        walk(7, 0, 3, 7, 4, 1, 0);
        DUE.sentence("A WALK that ends on TO by 3, its last step cut short to 2");
        walk(0, 5, 3, 0, 3, 5);
        walk(7, 2, 3, 7, 4, 2);
        walk(4, 2, 3, 4, 2);
    }

    private static void aWalkInMinutes() {
        DUE.sentence("A WALK: in MINUTE START (0 on) one steps on FROM, then in each MINUTE, till on TO");
        for (int start : new int[] {0, 1, 13, 20}) {
            StairTunes x = Due.townOf(STAIRS + "z2,7,2," + start + ";");
            int[] treads = {2, 4, 6, 7};
            for (int minute = 0; minute < 30; minute++) {
                boolean walks = minute >= start && minute < start + 4;
                DUE.is("where in " + minute + ", start " + start, x.where(0, minute),
                        walks ? treads[minute - start] : NONE);
            }
        }
        DUE.sentence("A WALK: the latest MINUTE of all is 27");
        StairTunes x = Due.townOf(STAIRS + "z0,7,1,20;");
        DUE.is("where in 19", x.where(0, 19), NONE);
        DUE.is("where in 20", x.where(0, 20), 0);
        DUE.is("where in 27", x.where(0, 27), 7);
        DUE.is("where in 28", x.where(0, 28), NONE);
        DUE.is("where in 29", x.where(0, 29), NONE);
    }

    private static void tones() {
        int[] worn = {0, 1, 9, 10, 11, 19, 20, 29, 30, 49, 50, 59, 60, 89, 90, 98, 99, 110};
        int[] lost = {0, 0, 0, 1, 1, 1, 2, 2, 3, 4, 5, 5, 6, 8, 9, 9, 9, 9};
        for (int k = 0; k < worn.length; k++) {
            DUE.sentence("TONE: NOTE, less 1 for each 10 times it is WORN (0 at least): " + worn[k]);
            StairTunes x = Due.townOf("t0,0;p9;p5;p0;z0,2,1,0;");
            days(x, worn[k]);
            DUE.is("of 9", x.tread(0, 2), 9 - lost[k]);
            DUE.is("of 5", x.tread(1, 2), Math.max(0, 5 - lost[k]));
            DUE.is("of 0", x.tread(2, 2), 0);
            DUE.is("note", x.tread(0, 0), 9);
        }
    }

    private static void sound(String tread, int step, int dry, int wet) {
        StairTunes x = Due.townOf("t2,0;" + tread + ";z0,0," + step + ",0;");
        DUE.is("dry, by " + step + ", " + tread, x.tune(0, 0), dry);
        DUE.is("heard dry, by " + step + ", " + tread, x.heard(0, 0), dry == 10 ? 0 : 1 << dry);
        x.days(1);
        DUE.is("wet, by " + step + ", " + tread, x.tune(0, 0), wet);
        DUE.is("heard wet, by " + step + ", " + tread, x.heard(0, 0), wet == 10 ? 0 : 1 << wet);
    }

    private static void soundsOfPlainAndSoft() {
        DUE.sentence("a plain one sounds TONE, wet or dry, by any STEP");
        for (int step = 1; step <= 3; step++) {
            for (int note = 0; note <= 9; note++) {
                sound("p" + note, step, note, note);
            }
        }
        DUE.sentence("a soft one sounds TONE; on a wet DAY 1 less");
        for (int step = 1; step <= 3; step++) {
            for (int note = 1; note <= 9; note++) {
                sound("s" + note, step, note, note - 1);
            }
        }
        DUE.sentence("a soft one on a wet DAY: 0 at least");
        for (int step = 1; step <= 3; step++) {
            sound("s0", step, 0, 0);
        }
        DUE.sentence("a soft one: less by TONE, not by NOTE");
        StairTunes x = Due.townOf("t15,0;s1;s5;z0,1,1,0;");
        days(x, 10);
        DUE.is("of 1", x.tune(0, 0), 0);
        DUE.is("of 5", x.tune(0, 1), 3);
        DUE.is("tone of 5", x.tread(1, 2), 4);
    }

    private static void soundsOfLoose() {
        DUE.sentence("a loose one sounds TONE by STEP 1");
        for (int note = 0; note <= 9; note++) {
            sound("l" + note, 1, note, note);
        }
        DUE.sentence("a loose one: 1 more for each above 1 of STEP");
        for (int note = 0; note <= 7; note++) {
            sound("l" + note, 2, note + 1, note + 1);
            sound("l" + note, 3, note + 2, note + 2);
        }
        DUE.sentence("a loose one: 9 at most");
        sound("l8", 2, 9, 9);
        sound("l9", 2, 9, 9);
        sound("l8", 3, 9, 9);
        sound("l9", 3, 9, 9);
        DUE.sentence("a loose one: more than TONE, not than NOTE");
        StairTunes x = Due.townOf("t0,0;l9;z0,0,3,0;");
        days(x, 20);
        DUE.is("worn 20", x.tune(0, 0), 9);
        days(x, 10);
        DUE.is("worn 30", x.tune(0, 0), 8);
    }

    private static void soundsOfRottenAndFelted() {
        DUE.sentence("a rotten one not at all (a REST), by any STEP");
        for (int step = 1; step <= 3; step++) {
            sound("r0", step, 10, 10);
            sound("r9", step, 10, 10);
        }
        DUE.sentence("a felted one not, if STEP is not 3");
        for (int note = 0; note <= 9; note++) {
            sound("f" + note, 1, 10, 10);
            sound("f" + note, 2, 10, 10);
        }
        DUE.sentence("a felted one half of TONE (cut), if STEP is 3");
        for (int note = 0; note <= 9; note++) {
            sound("f" + note, 3, note / 2, note / 2);
        }
        DUE.sentence("a felted one: half of TONE, not of NOTE");
        StairTunes x = Due.townOf("t0,0;f9;z0,0,3,0;");
        days(x, 9);
        DUE.is("worn 9", x.tune(0, 0), 4);
        days(x, 11);
        DUE.is("worn 20", x.tune(0, 0), 3);
        DUE.sentence("a STEP is the WALKER's, also where he steps but once, or less far");
        x = Due.townOf("t0,0;f9;f9;l3;z0,1,3,0;z2,2,3,0;");
        DUE.is("first", x.tune(0, 0), 4);
        DUE.is("last", x.tune(0, 1), 4);
        DUE.is("only", x.tune(1, 0), 5);
    }

    private static void heardByReach() {
        for (int reach = 0; reach <= 9; reach++) {
            DUE.sentence("HEARD: of TREADS that are REACH or less from it: " + reach);
            StairTunes x = Due.townOf(STAIRS + "z3,3,1,0;z0,0,1,1;z7,7,1,2;");
            x.reach(reach);
            for (int door = 0; door < 8; door++) {
                DUE.is("of 3 at " + door, x.heard(door, 0), Math.abs(door - 3) <= reach ? 8 : 0);
                DUE.is("of 0 at " + door, x.heard(door, 1), door <= reach ? 1 : 0);
                DUE.is("of 7 at " + door, x.heard(door, 2), 7 - door <= reach ? 128 : 0);
            }
        }
    }

    private static void heardIsASet() {
        StairTunes x = Due.townOf("t0,9;p0;p9;p9;r5;f5;z0,0,1,4;z1,1,1,4;z2,2,2,4;z3,3,1,4;z4,4,2,4;");
        DUE.sentence("HEARD: a set of bits 0 to 9, of like notes one; a REST is none");
        DUE.is("heard", x.heard(0, 4), 513);
        DUE.sentence("HEARD in a MINUTE, not in the one ahead, nor in the next");
        DUE.is("ahead", x.heard(0, 3), 0);
        DUE.is("next", x.heard(0, 5), 0);
        DUE.sentence("HEARD: nothing of those who are not yet or no more on a TREAD");
        x = Due.townOf("t0,9;p0;p9;z0,1,1,20;");
        DUE.is("minute 19", x.heard(0, 19), 0);
        DUE.is("minute 20", x.heard(0, 20), 1);
        DUE.is("minute 21", x.heard(0, 21), 512);
        DUE.is("minute 22", x.heard(0, 22), 0);
        DUE.sentence("HEARD: two on one TREAD sound each by his STEP");
        x = Due.townOf("t0,0;l3;z0,0,1,0;z0,0,2,0;z0,0,3,0;");
        DUE.is("heard", x.heard(0, 0), 8 + 16 + 32);
    }

    private static void aDay() {
        DUE.sentence("A DAY: each TREAD is WORN once more by each who steps on it");
        StairTunes x = Due.townOf("t0,0;r0;f1;p2;z0,2,1,0;z2,0,2,5;z0,0,3,9;z0,0,1,20;z2,2,1,0;");
        DUE.is("worn together", x.days(1), 8);
        int[] worn = {4, 1, 3};
        for (int t = 0; t < 3; t++) {
            DUE.is("worn " + t, x.tread(t, 1), worn[t]);
        }
        DUE.sentence("A DAY: (99 at most), reached by ones");
        x = Due.townOf("t0,0;p0;z0,0,1,0;");
        days(x, 98);
        DUE.is("on day 98", x.tread(0, 1), 98);
        x.days(1);
        DUE.is("on day 99", x.tread(0, 1), 99);
        x.days(1);
        DUE.is("on day 100", x.tread(0, 1), 99);
        DUE.sentence("A DAY: (99 at most), reached by several at once");
        x = Due.townOf("t0,0;p0;z0,0,1,0;z0,0,1,0;z0,0,1,0;z0,0,1,0;z0,0,1,0;");
        days(x, 19);
        DUE.is("on day 19", x.tread(0, 1), 95);
        x.days(1);
        DUE.is("on day 20", x.tread(0, 1), 99);
        x.days(1);
        DUE.is("on day 21", x.tread(0, 1), 99);
        DUE.sentence("A DAY: (99 at most) of each TREAD, not of all together");
        x = Due.townOf("t0,0;p0;p0;p0;z0,1,1,0;");
        for (int k = 0; k < 4; k++) {
            x.days(24);
        }
        DUE.is("day 100", x.days(4), 198);
        DUE.is("nobody's", x.tread(2, 1), 0);
    }

    private static void aDayWearsAndExchanges() {
        DUE.sentence("A DAY: then FROM and TO of each WALKER are exchanged");
        StairTunes x = Due.townOf(STAIRS + "z0,7,3,2;z5,5,1,0;z6,1,2,0;z0,7,1,20;z1,2,3,4;");
        int[] from = {0, 5, 6, 0, 1};
        int[] to = {7, 5, 1, 7, 2};
        for (int day = 0; day < 4; day++) {
            for (int w = 0; w < 5; w++) {
                DUE.is("from of " + w + " on day " + day, x.walker(w, 0), day % 2 == 0 ? from[w] : to[w]);
                DUE.is("to of " + w + " on day " + day, x.walker(w, 1), day % 2 == 0 ? to[w] : from[w]);
            }
            x.days(1);
        }
        DUE.sentence("A DAY: STEP and START stay");
        DUE.is("step", x.walker(0, 2), 3);
        DUE.is("start", x.walker(3, 3), 20);
        DUE.sentence("A DAY: worn by the WALK ahead of the exchange: other TREADS on the way back");
        x = Due.townOf(STAIRS + "z0,7,3,0;");
        x.days(1);
        DUE.is("3 on the way there", x.tread(3, 1), 1);
        DUE.is("4 on the way there", x.tread(4, 1), 0);
        x.days(1);
        DUE.is("3 on the way back", x.tread(3, 1), 1);
        DUE.is("4 on the way back", x.tread(4, 1), 1);
        DUE.is("7 both times", x.tread(7, 1), 2);
        DUE.sentence("A DAY: DAY is 1 more");
        DUE.is("day", x.count(3), 2);
    }

    private static void wetDays() {
        DUE.sentence("WET: bits of DAYS by 4 left over that are wet, to DAY 999");
        StairTunes x = Due.townOf("t8,0;s9;z0,0,1,0;");
        days(x, 995);
        x.plane(0, 9);
        int[] wet = {1, 0, 0, 0, 1};
        for (int k = 0; k < 5; k++) {
            DUE.is("day", x.count(3), 995 + k);
            DUE.is("wet on day " + (995 + k), x.count(4), wet[k]);
            DUE.is("soft on day " + (995 + k), x.tune(0, 0), 9 - wet[k]);
            x.days(1);
        }
    }

    private static void promise10() {
        DUE.sentence("Promise 10: 1 DAY, an ACT");
        StairTunes x = Due.townOf(STAIRS + "z0,7,1,0;");
        DUE.is("worn together", x.days(1), 8);
        DUE.is("acts", x.count(6), 1);
        DUE.sentence("Promise 10: 24 DAYS, an ACT each");
        x = Due.townOf(STAIRS + "z0,7,1,0;");
        DUE.is("worn together", x.days(24), 192);
        DUE.is("acts", x.count(6), 24);
        DUE.is("day", x.count(3), 24);
        DUE.is("undo", x.undo(), 23);
        DUE.is("day", x.count(3), 23);
        DUE.sentence("Promise 10: how often all TREADS are WORN then, together: most");
        for (int k = 0; k < 3; k++) {
            x.days(24);
        }
        DUE.is("worn together", x.days(4), 792);
        DUE.sentence("Promise 10: how often they are WORN then: planed, they are not");
        x.plane(0, 0);
        DUE.is("worn together", x.days(1), 694);
    }

    private static void promise10Full() {
        StairTunes x = Due.townOf("t0,0;p0;z0,0,1,0;");
        days(x, 975);
        DUE.sentence("Promise 10: to DAY 999, by 24");
        DUE.is("days(24)", x.days(24), 99);
        DUE.is("day", x.count(3), 999);
        DUE.sentence("Promise 10: FULL: DAY would be above 999");
        DUE.is("days(1)", x.days(1), FULL);
        DUE.is("days(24)", x.days(24), FULL);
        DUE.is("day", x.count(3), 999);
        DUE.sentence("Promise 10: BAD ahead of FULL");
        DUE.is("days(0)", x.days(0), BAD);
        DUE.is("days(25)", x.days(25), BAD);
        DUE.sentence("Promise 10: FULL by one DAY, all of them are refused");
        x.undo();
        DUE.is("day", x.count(3), 998);
        DUE.is("days(2)", x.days(2), FULL);
        DUE.is("day", x.count(3), 998);
        DUE.is("acts", x.count(6), 23);
        DUE.is("days(1)", x.days(1), 99);
        DUE.sentence("DAY 999: other ACTS can be done");
        DUE.is("plane", x.plane(0, 9), 0);
        DUE.is("reach", x.reach(1), 0);
        DUE.is("acts", x.count(6), 24);
        DUE.sentence("DAY 999: a TOWN that is read begins at 0");
        Due.tell(x, "t0,0;p0;z0,0,1,0;");
        DUE.is("days(24)", x.days(24), 24);
    }

    private static void promise11() {
        DUE.sentence("Promise 11: NOTE 0 and 9, of the first and the last TREAD");
        StairTunes x = Due.townOf(STAIRS + "z0,7,1,0;");
        DUE.is("plane(0, 9)", x.plane(0, 9), 0);
        DUE.is("note", x.tread(0, 0), 9);
        DUE.is("plane(7, 0)", x.plane(7, 0), 7);
        DUE.is("note", x.tread(7, 0), 0);
        DUE.sentence("Promise 11: TONE it had, not NOTE");
        x.days(20);
        DUE.is("plane(0, 9)", x.plane(0, 9), 7);
        DUE.sentence("Promise 11: it is not WORN, by its own NOTE, too");
        DUE.is("worn", x.tread(0, 1), 0);
        DUE.is("tone", x.tread(0, 2), 9);
        DUE.sentence("Promise 11: TONE it had: 0 at least");
        DUE.is("plane(1, 9)", x.plane(1, 9), 0);
        DUE.sentence("Promise 11: other TREADS are WORN as they were");
        DUE.is("worn", x.tread(2, 1), 20);
        DUE.sentence("Promise 11: its KIND stays");
        x = Due.townOf("t0,0;r5;f5;z0,1,1,0;");
        x.plane(0, 9);
        x.plane(1, 9);
        DUE.is("rotten", x.kind(0), 4);
        DUE.is("felted", x.kind(1), 5);
    }

    private static void promise12() {
        DUE.sentence("Promise 12: what it was, 0 to 9 and back");
        StairTunes x = Due.townOf(STAIRS + "z0,7,1,0;");
        for (int v = 1; v <= 9; v++) {
            DUE.is("reach(" + v + ")", x.reach(v), v - 1);
            DUE.is("count(5)", x.count(5), v);
        }
        DUE.is("reach(0)", x.reach(0), 9);
        DUE.is("count(5)", x.count(5), 0);
    }

    private static void promise13And14() {
        DUE.sentence("Promise 13: how many TREADS his WALK has then, 1 to 8");
        StairTunes x = Due.townOf(STAIRS + "z3,3,1,7;z3,3,1,0;");
        for (int to = 0; to < 8; to++) {
            DUE.is("way(0, 0, " + to + ")", x.way(0, 0, to), to + 1);
            DUE.is("way(0, 7, " + to + ")", x.way(0, 7, to), 8 - to);
        }
        DUE.sentence("Promise 13: FROM, TO of a WALKER, of no other; STEP, START stay");
        DUE.is("from", x.walker(0, 0), 7);
        DUE.is("to", x.walker(0, 1), 7);
        DUE.is("step", x.walker(0, 2), 1);
        DUE.is("start", x.walker(0, 3), 7);
        DUE.is("from of the other", x.walker(1, 0), 3);
        DUE.sentence("Promise 14: likewise, by STEP 1 to 3");
        x.way(0, 0, 7);
        DUE.is("gait(0, 1, 0)", x.gait(0, 1, 0), 8);
        DUE.is("gait(0, 2, 0)", x.gait(0, 2, 0), 5);
        DUE.is("gait(0, 3, 20)", x.gait(0, 3, 20), 4);
        DUE.sentence("Promise 14: STEP, START of a WALKER, of no other; FROM, TO stay");
        DUE.is("step", x.walker(0, 2), 3);
        DUE.is("start", x.walker(0, 3), 20);
        DUE.is("from", x.walker(0, 0), 0);
        DUE.is("to", x.walker(0, 1), 7);
        DUE.is("step of the other", x.walker(1, 2), 1);
    }

    private static void promise15() {
        DUE.sentence("Promise 15: 3 WALKERS (bits) who step on it: all five, none");
        StairTunes x = Due.townOf("t0,0;p0;p1;z0,0,1,0;z0,0,1,0;z0,0,1,0;z0,0,1,0;z0,0,1,0;");
        DUE.is("all five", x.tread(0, 3), 31);
        DUE.is("none", x.tread(1, 3), 0);
        DUE.sentence("Promise 15: 3 WALKERS who step on it on this DAY: the way of this DAY");
        x = Due.townOf(STAIRS + "z0,7,3,0;");
        DUE.is("on 3", x.tread(3, 3), 1);
        DUE.is("on 4", x.tread(4, 3), 0);
        x.days(1);
        DUE.is("on 3", x.tread(3, 3), 0);
        DUE.is("on 4", x.tread(4, 3), 1);
        DUE.sentence("Promise 15: 1 how often WORN, 99 at most; 2 TONE, 0 at least; 0 NOTE as told");
        days(x, 110);
        DUE.is("worn", x.tread(7, 1), 99);
        DUE.is("tone", x.tread(7, 2), 0);
        DUE.is("note", x.tread(7, 0), 7);
    }

    private static void promise16() {
        DUE.sentence("Promise 16: 0 FROM, 1 TO, 2 STEP, 3 START, the least and the greatest");
        StairTunes x = Due.townOf(STAIRS + "z0,7,1,20;z7,0,3,0;");
        int[] parts = {0, 7, 1, 20, 7, 0, 3, 0};
        for (int k = 0; k < 8; k++) {
            DUE.is("walker(" + k / 4 + ", " + k % 4 + ")", x.walker(k / 4, k % 4), parts[k]);
        }
    }

    private static void promise17() {
        StairTunes x = Due.townOf(STAIRS + "z0,7,1,20;z5,5,3,0;");
        DUE.sentence("Promise 17: The k-th of a TUNE (0 on), the first and the last");
        DUE.is("tune(0, 0)", x.tune(0, 0), 0);
        DUE.is("tune(0, 7)", x.tune(0, 7), 7);
        DUE.is("tune(1, 0)", x.tune(1, 0), 5);
        DUE.sentence("Promise 17: NONE: not so long");
        for (int k : new int[] {8, 9, 100, 0x20000000, 0x40000000, 0x55555556, Integer.MAX_VALUE}) {
            DUE.is("tune(0, " + k + ")", x.tune(0, k), NONE);
            DUE.is("tune(1, " + k + ")", x.tune(1, k), NONE);
        }
        DUE.is("tune(1, 1)", x.tune(1, 1), NONE);
        DUE.sentence("Promise 17: NONE: not so long, by STEPS 2 and 3, where k times STEP wraps around");
        x.gait(0, 3, 0);
        for (int k : new int[] {4, 0x55555555, 0x55555556, 0x55555557, 0x7fffffff}) {
            DUE.is("tune(0, " + k + ")", x.tune(0, k), NONE);
        }
        x.gait(0, 2, 0);
        for (int k : new int[] {5, 0x40000000, 0x7ffffffe, 0x7fffffff}) {
            DUE.is("tune(0, " + k + ")", x.tune(0, k), NONE);
        }
        DUE.sentence("Promise 17: 10 a REST, apart from note 0");
        x = Due.townOf("t0,0;r0;p0;f1;z0,2,1,0;");
        DUE.is("rotten", x.tune(0, 0), 10);
        DUE.is("note 0", x.tune(0, 1), 0);
        DUE.is("felted", x.tune(0, 2), 10);
        DUE.sentence("Promise 17: sound on this DAY: the way back on the next one");
        x = Due.townOf(STAIRS + "z0,7,3,0;");
        x.days(1);
        int[] back = {7, 4, 1, 0};
        for (int k = 0; k < 4; k++) {
            DUE.is("tune(0, " + k + ")", x.tune(0, k), back[k]);
        }
    }

    private static void promise18() {
        StairTunes x = Due.townOf("t0,0;p0;p0;z0,1,1,1;z1,1,1,20;");
        DUE.sentence("Promise 18: NONE: not yet, no more");
        DUE.is("not yet", x.where(0, 0), NONE);
        DUE.is("first", x.where(0, 1), 0);
        DUE.is("last", x.where(0, 2), 1);
        DUE.is("no more", x.where(0, 3), NONE);
        DUE.is("not yet at 19", x.where(1, 19), NONE);
        DUE.is("at 20", x.where(1, 20), 1);
        DUE.is("no more at 21", x.where(1, 21), NONE);
        DUE.sentence("Promise 18: MINUTE 0 and 29");
        x.gait(0, 1, 0);
        DUE.is("in 0", x.where(0, 0), 0);
        DUE.is("in 29", x.where(0, 29), NONE);
    }

    private static void promise19() {
        StairTunes x = Due.townOf("t0,0;p0;p9;z0,0,1,0;z1,1,1,0;");
        DUE.sentence("Promise 19: bits, the least and the greatest; MINUTE 0 and 29");
        DUE.is("note 0", x.heard(0, 0), 1);
        DUE.is("note 9", x.heard(1, 0), 512);
        DUE.is("minute 29", x.heard(0, 29), 0);
        DUE.sentence("Promise 19: all notes that five can sound together");
        Due.tell(x, "t0,1;l5;p9;z0,0,1,0;z0,0,2,0;z0,0,3,0;z1,1,1,0;z1,1,2,0;");
        DUE.is("heard", x.heard(0, 0), 32 + 64 + 128 + 512);
    }
}
