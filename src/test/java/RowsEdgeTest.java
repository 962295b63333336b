/** Promises 1 to 5 and 40, sentence by sentence: the edges of the ROWS, and status() behind each kind of call. */
public final class RowsEdgeTest {
    private static final int NULL = -1000011, PLACE = -1000012, KIND = -1000013, SIZE = -1000014, STORE = -1000015;
    private static final Due DUE = new Due();

    public static void main(String[] args) {
        promise1();
        promise2();
        promise2InPlaceOfWhatIsThere();
        promise3();
        promise4();
        promise4AsTheyWereAhead();
        promise5();
        promise40Findings();
        promise40Refusals();
        promise40OtherCalls();
        DUE.end();
    }

    private static void promise1() {
        StairTunes x = new StairTunes();
        DUE.sentence("Promise 1: No TOWN");
        for (int what = 1; what <= 6; what++) {
            DUE.is("count(" + what + ")", x.count(what), 0);
        }
        DUE.sentence("ROWS 0 .. 7 are missing (at first)");
        DUE.is("count(0)", x.count(0), 0);
        for (int row = 0; row < 8; row++) {
            DUE.is("drop(" + row + ")", x.drop(row), NULL);
        }
        DUE.sentence("Promise 40: 0: there was none");
        DUE.is("status()", new StairTunes().status(), 0);
        DUE.sentence("Promise 8: 0 before one");
        DUE.is("fault()", x.fault(), 0);
        DUE.sentence("THE TAPE: no byte at first");
        DUE.is("count(7)", x.count(7), 0);
        DUE.sentence("THE TRACE: no number at first");
        DUE.is("trace(0)", x.trace(0), StairTunes.NONE);
    }

    private static void promise2() {
        StairTunes x = new StairTunes();
        DUE.sentence("Promise 2: ROWS 0 .. 7, each apart");
        for (int row = 0; row < 8; row++) {
            DUE.is("row(" + row + ")", x.row(row, row % 3, row), row);
            DUE.is("count(0)", x.count(0), row + 1);
        }
        for (int row = 0; row < 8; row++) {
            DUE.is("drop(" + row + ")", x.drop(row), row);
            DUE.is("count(0)", x.count(0), 7 - row);
        }
        for (int lane = 0; lane < 3; lane++) {
            DUE.sentence("Promise 2: 40 ITEMS at most, LANE " + lane);
            DUE.is("row(7, lane, 40)", x.row(7, lane, 40), 40);
            DUE.is("set(7, 39, 1)", x.set(7, 39, 1), 1);
            DUE.is("set(7, 40, 1)", x.set(7, 40, 1), PLACE);
            DUE.sentence("Promise 2: 0 ITEMS at least, LANE " + lane);
            DUE.is("row(0, lane, 0)", x.row(0, lane, 0), 0);
            DUE.is("set(0, 0, 1)", x.set(0, 0, 1), PLACE);
            DUE.is("drop(0)", x.drop(0), 0);
        }
        DUE.sentence("ITEMS of a ROW of 40 are none of the next ROW's");
        x.row(6, 2, 40);
        x.row(7, 2, 40);
        x.set(6, 39, 512);
        x.set(7, 0, 1);
        DUE.is("last of 6", isHeard(x, 6, 39, 9));
        DUE.is("first of 7", isHeard(x, 7, 0, 0));
    }

    private static void promise2InPlaceOfWhatIsThere() {
        StairTunes x = new StairTunes();
        DUE.sentence("Promise 2: ITEMS are 0 at first");
        for (int lane = 0; lane < 3; lane++) {
            x.row(lane, lane, 40);
            for (int i = 0; i < 40; i += 13) {
                DUE.is("item " + i + " of lane " + lane, isSilence(x, lane, i));
            }
        }
        DUE.sentence("Promise 2: in place of what is there: the ITEMS");
        x.row(0, 2, 3);
        x.set(0, 2, 8);
        x.row(0, 2, 2);
        x.row(0, 2, 3);
        DUE.is("item 2 is 0 anew", isSilence(x, 0, 2));
        DUE.sentence("Promise 2: in place of what is there: the LANE");
        x.row(0, 0, 1);
        DUE.is("a byte", x.set(0, 0, 300), 44);
        x.row(0, 1, 1);
        DUE.is("a short", x.set(0, 0, 70000), 4464);
        x.row(0, 2, 1);
        DUE.is("an int", x.set(0, 0, 70000), 70000);
        DUE.sentence("Promise 2: in place of what is there: how many");
        DUE.is("fewer", x.row(0, 2, 0), 0);
        DUE.is("none there", x.set(0, 0, 1), PLACE);
        DUE.is("rows", x.count(0), 3);
        DUE.sentence("Promise 2: SIZE leaves the ROW that is there");
        x.row(0, 0, 2);
        DUE.is("fewer than none", x.row(0, 2, -1), SIZE);
        DUE.is("still bytes", x.set(0, 1, 300), 44);
        DUE.sentence("Promise 2: SIZE lays no ROW where none is");
        DUE.is("fewer than none", x.row(5, 2, -1), SIZE);
        DUE.is("still missing", x.set(5, 0, 1), NULL);
        DUE.sentence("Promise 2: a dropped ROW that is laid anew has ITEMS 0");
        x.row(0, 2, 1);
        x.set(0, 0, 8);
        x.drop(0);
        x.row(0, 2, 1);
        DUE.is("item 0", isSilence(x, 0, 0));
    }

    /** An ITEM is 0: so all NOTES fit it where nobody is. */
    private static boolean isSilence(StairTunes x, int row, int i) {
        Due.tell(x, "t0,0;p0;z0,0,1,0;");
        return x.what(0, 1, 0, 9, row, i, 1) == 1023;
    }

    /** An ITEM is the bit of a note: so that NOTE alone fits it. */
    private static boolean isHeard(StairTunes x, int row, int i, int note) {
        Due.tell(x, "t0,0;p5;z0,0,1,0;");
        return x.what(0, 1, 0, 0, row, i, 1) == 1 << note;
    }

    private static void lane(StairTunes x, int row, int v, int kept) {
        DUE.is("set(" + row + ", 0, " + v + ")", x.set(row, 0, v), kept);
    }

    private static void promise3() {
        StairTunes x = new StairTunes();
        for (int row = 0; row < 3; row++) {
            x.row(row, row, 1);
        }
        DUE.sentence("Promise 3: the lowest bits of a byte, read with their sign");
        int[] bytes = {127, 127, 128, -128, 255, -1, 256, 0, -128, -128, -129, 127, -256, 0,
            Integer.MIN_VALUE, 0, Integer.MAX_VALUE, -1};
        for (int k = 0; k < bytes.length; k += 2) {
            lane(x, 0, bytes[k], bytes[k + 1]);
        }
        DUE.sentence("Promise 3: the lowest bits of a short, read with their sign");
        int[] shorts = {255, 255, 32767, 32767, 32768, -32768, 65535, -1, 65536, 0, -32768, -32768, -32769, 32767,
            Integer.MIN_VALUE, 0, Integer.MAX_VALUE, -1};
        for (int k = 0; k < shorts.length; k += 2) {
            lane(x, 1, shorts[k], shorts[k + 1]);
        }
        DUE.sentence("Promise 3: an int as it is");
        for (int v : new int[] {65536, -65537, Integer.MIN_VALUE, Integer.MAX_VALUE, 0}) {
            lane(x, 2, v, v);
        }
        DUE.sentence("Promise 3: what it is then: the ITEM is kept as it is answered");
        lane(x, 0, 256 + 8, 8);
        DUE.is("a byte", isHeard(x, 0, 0, 3));
        lane(x, 1, 65536 + 512, 512);
        DUE.is("a short", isHeard(x, 1, 0, 9));
        lane(x, 2, 512, 512);
        DUE.is("an int", isHeard(x, 2, 0, 9));
        DUE.sentence("Promise 3: an ITEM beyond its LANE is no bits that are heard");
        lane(x, 0, 512, 0);
        DUE.is("no byte for note 9", !isHeard(x, 0, 0, 9));
    }

    private static void promise4() {
        StairTunes x = new StairTunes();
        x.row(0, 2, 40);
        x.row(1, 2, 40);
        x.row(2, 2, 0);
        x.row(3, 2, 0);
        for (int i = 0; i < 40; i++) {
            x.set(0, i, 1 << i % 10);
        }
        DUE.sentence("Promise 4: all of a ROW of 40: n");
        DUE.is("copy", x.copy(0, 0, 1, 0, 40), 40);
        for (int i = 0; i < 40; i += 13) {
            DUE.is("item " + i, isHeard(x, 1, i, i % 10));
        }
        DUE.sentence("Promise 4: none, at the very ends");
        DUE.is("copy", x.copy(0, 40, 1, 40, 0), 0);
        DUE.is("copy", x.copy(2, 0, 3, 0, 0), 0);
        DUE.is("copy", x.copy(2, 0, 2, 0, 0), 0);
        DUE.is("copy", x.copy(0, 40, 2, 0, 0), 0);
        DUE.sentence("Promise 4: to the last place");
        DUE.is("copy", x.copy(0, 3, 1, 39, 1), 1);
        DUE.is("item 39", isHeard(x, 1, 39, 3));
        DUE.is("item 38", isHeard(x, 1, 38, 8));
        DUE.sentence("Promise 4: ROWS of each LANE, if both have it");
        for (int lane = 0; lane < 3; lane++) {
            x.row(4, lane, 1);
            x.row(5, lane, 1);
            x.set(4, 0, 64);
            DUE.is("copy of lane " + lane, x.copy(4, 0, 5, 0, 1), 1);
            DUE.is("item of lane " + lane, isHeard(x, 5, 0, 6));
        }
        DUE.sentence("Promise 4: the ITEMS of a stay");
        DUE.is("item", isHeard(x, 4, 0, 6));
    }

    private static void promise4AsTheyWereAhead() {
        StairTunes x = new StairTunes();
        x.row(0, 1, 8);
        DUE.sentence("Promise 4: as they were ahead, up within one ROW");
        for (int i = 0; i < 8; i++) {
            x.set(0, i, 1 << i);
        }
        x.copy(0, 0, 0, 1, 7);
        for (int i = 0; i < 8; i++) {
            DUE.is("item " + i, isHeard(x, 0, i, Math.max(0, i - 1)));
        }
        DUE.sentence("Promise 4: as they were ahead, down within one ROW");
        for (int i = 0; i < 8; i++) {
            x.set(0, i, 1 << i);
        }
        x.copy(0, 2, 0, 0, 6);
        for (int i = 0; i < 8; i++) {
            DUE.is("item " + i, isHeard(x, 0, i, i < 6 ? i + 2 : i));
        }
        DUE.sentence("Promise 4: onto themselves");
        DUE.is("copy", x.copy(0, 0, 0, 0, 8), 8);
        DUE.is("item 0", isHeard(x, 0, 0, 2));
    }

    private static void promise5() {
        StairTunes x = new StairTunes();
        DUE.sentence("Promise 5: how many ITEMS it had, none and 40, too");
        x.row(0, 0, 0);
        x.row(7, 2, 40);
        DUE.is("drop(0)", x.drop(0), 0);
        DUE.is("drop(7)", x.drop(7), 40);
        DUE.sentence("Promise 5: A ROW is missing from now on");
        DUE.is("drop(7)", x.drop(7), NULL);
        DUE.is("set(7, 0, 0)", x.set(7, 0, 0), NULL);
        DUE.is("copy(7, 0, 7, 0, 0)", x.copy(7, 0, 7, 0, 0), NULL);
        Due.tell(x, "t0,0;p0;z0,0,1,0;");
        DUE.is("what of 7", x.what(0, 0, 0, 0, 7, 0, 1), NULL);
        DUE.is("who of 7", x.who(0, 0, 0, 0, 7, 0, 1), NULL);
        DUE.is("count(0)", x.count(0), 0);
        DUE.sentence("Promise 5: no other ROW is missing by that");
        x.row(1, 0, 1);
        x.row(2, 0, 1);
        x.drop(1);
        DUE.is("set(2, 0, 1)", x.set(2, 0, 1), 1);
    }

    private static void finds(String call, StairTunes x, long answer, long want) {
        DUE.is(call, answer, want);
        DUE.is("status() behind " + call, x.status(), -1000010 - want);
    }

    private static void fine(String call, StairTunes x, long answer) {
        DUE.is(call + " is not refused", answer > StairTunes.NONE || answer == 0);
        DUE.is("status() behind " + call, x.status(), 0);
    }

    /** A TOWN, ROWS 0 of one byte, 1 of one short, and a FINDING. */
    private static StairTunes found() {
        StairTunes x = Due.townOf("t0,0;p0;z0,0,1,0;");
        x.row(0, 0, 1);
        x.row(1, 1, 1);
        x.copy(0, 0, 1, 0, 0);
        return x;
    }

    private static void promise40Findings() {
        StairTunes x = found();
        DUE.sentence("Promise 40: the number of its FINDING: 1 NULL");
        finds("set", x, x.set(7, 0, 0), NULL);
        finds("copy", x, x.copy(0, 0, 1, 0, 0), STORE);
        finds("copy of none", x, x.copy(7, 0, 0, 0, 0), NULL);
        finds("copy", x, x.copy(0, 0, 1, 0, 0), STORE);
        finds("drop", x, x.drop(7), NULL);
        finds("copy", x, x.copy(0, 0, 1, 0, 0), STORE);
        finds("what", x, x.what(0, 0, 0, 0, 7, 0, 1), NULL);
        finds("copy", x, x.copy(0, 0, 1, 0, 0), STORE);
        finds("who", x, x.who(0, 0, 0, 0, 7, 0, 1), NULL);
        DUE.sentence("Promise 40: the number of its FINDING: 2 PLACE");
        finds("set", x, x.set(0, 1, 0), PLACE);
        finds("drop", x, x.drop(7), NULL);
        finds("copy", x, x.copy(0, 0, 0, 0, 2), PLACE);
        finds("drop", x, x.drop(7), NULL);
        finds("what", x, x.what(0, 0, 0, 0, 0, 0, 2), PLACE);
        finds("drop", x, x.drop(7), NULL);
        finds("who", x, x.who(0, 0, 0, 0, 0, 0, 2), PLACE);
        DUE.sentence("Promise 40: the number of its FINDING: 3 KIND");
        finds("as", x, x.as(0, 4), KIND);
        DUE.sentence("Promise 40: the number of its FINDING: 4 SIZE");
        finds("row", x, x.row(0, 0, -1), SIZE);
        DUE.sentence("Promise 40: the number of its FINDING: 5 STORE");
        finds("copy", x, x.copy(0, 0, 1, 0, 0), STORE);
        DUE.sentence("Promise 40: 0: it had none");
        x = found();
        fine("row", x, x.row(2, 0, 1));
        x = found();
        fine("set", x, x.set(0, 0, 0));
        x = found();
        fine("copy", x, x.copy(0, 0, 0, 0, 1));
        x = found();
        fine("drop", x, x.drop(0));
        x = found();
        fine("what", x, x.what(0, 0, 0, 9, 0, 0, 1));
        x = found();
        fine("who", x, x.who(0, 0, 0, 9, 0, 0, 1));
        x = found();
        fine("as", x, x.as(0, 1));
    }

    private static void stays(String call, StairTunes x, long answer) {
        DUE.is("status() behind " + call + ", that answered " + answer, x.status(), 5);
    }

    private static void promise40Refusals() {
        DUE.sentence("Promise 40: Of the latest call that was not BAD, STATE, FULL");
        StairTunes x = found();
        stays("row", x, x.row(8, 0, 1));
        stays("row above", x, x.row(0, 0, 41));
        stays("set", x, x.set(-1, 0, 0));
        stays("copy", x, x.copy(0, 0, 8, 0, 0));
        stays("drop", x, x.drop(8));
        stays("what", x, x.what(1, 0, 0, 0, 0, 0, 1));
        stays("what of n", x, x.what(0, 0, 0, 0, 0, 0, 13));
        stays("who", x, x.who(0, 4, 0, 0, 0, 0, 1));
        stays("as", x, x.as(1, 0));
        stays("as a kind", x, x.as(0, 6));
        DUE.sentence("Promise 40: 0 stays behind BAD, too");
        x.row(0, 0, 1);
        x.row(8, 0, 1);
        x.as(0, 6);
        DUE.is("status()", x.status(), 0);
    }

    /** Only calls with a ROW, and as(), tell something by status(). */
    private static void promise40OtherCalls() {
        DUE.sentence("Promise 40: Of the latest call with a ROW, or as(): no other call, be it refused or not");
        StairTunes x = found();
        stays("feed", x, x.feed('t'));
        stays("feed refused", x, x.feed(256));
        stays("town with a fault", x, x.town());
        stays("fault", x, x.fault());
        stays("town", x, Due.tell(x, "t0,0;p0;p1;z0,0,1,0;z1,0,1,0;"));
        stays("undo of none", x, x.undo());
        stays("days", x, x.days(1));
        stays("days refused", x, x.days(0));
        stays("undo", x, x.undo());
        stays("plane", x, x.plane(0, 1));
        stays("reach", x, x.reach(1));
        stays("way", x, x.way(0, 0, 1));
        stays("gait", x, x.gait(0, 1, 1));
        stays("tread", x, x.tread(0, 0));
        stays("tread refused", x, x.tread(8, 0));
        stays("walker", x, x.walker(0, 0));
        stays("tune", x, x.tune(0, 9));
        stays("where", x, x.where(0, 0));
        stays("heard", x, x.heard(0, 0));
        stays("ahead", x, x.ahead(0, 1, 0));
        stays("length", x, x.length(0));
        stays("meet", x, x.meet(0, 1));
        stays("choir", x, x.choir(0));
        stays("twins", x, x.twins(0));
        stays("felt", x, x.felt(0, 0, 0));
        stays("doors", x, x.doors(0));
        stays("planed", x, x.planed(0));
        stays("rise", x, x.rise(0, 0, 1, 0));
        stays("rots", x, x.rots(0, 0, 1, 0));
        stays("drawn", x, x.drawn(1, 1, 0));
        stays("restore of none", x, x.restore(0));
        stays("image", x, x.image(0));
        stays("restore", x, x.restore(0));
        stays("kind", x, x.kind(0));
        stays("ask", x, x.ask(0, 0));
        stays("trace", x, x.trace(0));
        stays("count", x, x.count(0));
        stays("status", x, x.status());
    }
}
