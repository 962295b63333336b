/** Promises 1 to 5 and 40: a new object, the ROWS, and what is found with them. */
public final class RowsTest {
    private static final int NULL = -1000011, PLACE = -1000012, SIZE = -1000014, STORE = -1000015;
    private static final Due DUE = new Due();

    public static void main(String[] args) {
        promise1NewObject();
        promise2Row();
        promise3Set();
        promise4Copy();
        promise4CopyFindings();
        promise5Drop();
        promise40Status();
        DUE.end();
    }

    private static void promise1NewObject() {
        StairTunes x = new StairTunes();
        for (int what = 0; what < 8; what++) {
            DUE.is("new count " + what, x.count(what), 0);
        }
        DUE.is("new status", x.status(), 0);
        DUE.is("new fault", x.fault(), 0);
        DUE.is("new trace", x.trace(0), StairTunes.NONE);
        DUE.is("new undo", x.undo(), StairTunes.STATE);
        DUE.is("new tread", x.tread(0, 0), StairTunes.BAD);
        DUE.is("new walker", x.walker(0, 0), StairTunes.BAD);
        DUE.is("new restore", x.restore(0), StairTunes.STATE);
        for (int row = 0; row < 8; row++) {
            DUE.is("new drop " + row, x.drop(row), NULL);
        }
    }

    private static void promise2Row() {
        StairTunes x = new StairTunes();
        DUE.is("row of 40", x.row(7, 2, 40), 40);
        DUE.is("row of none", x.row(0, 0, 0), 0);
        DUE.is("rows", x.count(0), 2);
        DUE.is("no such row", x.row(8, 0, 1), StairTunes.BAD);
        DUE.is("row below", x.row(-1, 0, 1), StairTunes.BAD);
        DUE.is("no such lane", x.row(1, 3, 1), StairTunes.BAD);
        DUE.is("lane below", x.row(1, -1, 1), StairTunes.BAD);
        DUE.is("too many", x.row(1, 0, 41), StairTunes.BAD);
        DUE.is("fewer than none", x.row(7, 0, -1), SIZE);
        DUE.is("least of all", x.row(7, 0, Integer.MIN_VALUE), SIZE);
        DUE.is("bad ahead of size", x.row(7, 3, -1), StairTunes.BAD);
        DUE.is("still of 40", x.set(7, 39, 5), 5);
        DUE.is("row anew", x.row(7, 2, 3), 3);
        DUE.is("place gone", x.set(7, 3, 1), PLACE);
        DUE.is("row anew, longer", x.row(7, 2, 40), 40);
        DUE.is("rows yet", x.count(0), 2);
        Due.tell(x, "t0,0;p0;z0,0,1,0;");
        DUE.is("items are 0 anew", x.what(0, 1, 0, 5, 7, 39, 1), 1023);
    }

    private static void promise3Set() {
        StairTunes x = new StairTunes();
        x.row(0, 0, 2);
        x.row(1, 1, 2);
        x.row(2, 2, 2);
        DUE.is("byte", x.set(0, 0, 128), -128);
        DUE.is("byte kept", x.set(0, 1, 127), 127);
        DUE.is("byte of many bits", x.set(0, 0, 0x12345678), 0x78);
        DUE.is("short", x.set(1, 0, 32768), -32768);
        DUE.is("short of many bits", x.set(1, 1, 0x12345678), 0x5678);
        DUE.is("short below", x.set(1, 1, -65537), -1);
        DUE.is("int", x.set(2, 1, Integer.MIN_VALUE), Integer.MIN_VALUE);
        DUE.is("place behind", x.set(2, 2, 0), PLACE);
        DUE.is("place below", x.set(2, -1, 0), PLACE);
        DUE.is("place far", x.set(2, Integer.MAX_VALUE, 0), PLACE);
        DUE.is("missing", x.set(3, -1, 0), NULL);
        DUE.is("no such row", x.set(8, 0, 0), StairTunes.BAD);
        DUE.is("row below", x.set(-1, 0, 0), StairTunes.BAD);
    }

    /** Whether an item is the bit of v: so only if NOTE v alone fits it. */
    private static boolean isItem(StairTunes x, int row, int i, int v) {
        Due.tell(x, "t0,0;p" + v + ";z0,0,1,0;");
        return x.what(0, 1, 0, 0, row, i, 1) == 1 << v;
    }

    private static void promise4Copy() {
        StairTunes x = new StairTunes();
        x.row(0, 1, 6);
        for (int i = 0; i < 6; i++) {
            x.set(0, i, 1 << i);
        }
        DUE.is("copy up, over itself", x.copy(0, 0, 0, 1, 5), 5);
        for (int i = 0; i < 6; i++) {
            DUE.is("item " + i + " then", isItem(x, 0, i, Math.max(0, i - 1)) ? 1 : 0, 1);
        }
        x.row(1, 1, 3);
        DUE.is("copy to another", x.copy(0, 3, 1, 0, 3), 3);
        DUE.is("copied", isItem(x, 1, 2, 4) ? 1 : 0, 1);
        DUE.is("copy down, over itself", x.copy(1, 1, 1, 0, 2), 2);
        DUE.is("copied down", isItem(x, 1, 0, 3) ? 1 : 0, 1);
        DUE.is("copied down, next", isItem(x, 1, 1, 4) ? 1 : 0, 1);
        DUE.is("not copied", isItem(x, 1, 2, 4) ? 1 : 0, 1);
        DUE.is("copy none, at the ends", x.copy(0, 6, 1, 3, 0), 0);
    }

    private static void promise4CopyFindings() {
        StairTunes x = new StairTunes();
        x.row(0, 1, 6);
        x.row(1, 1, 3);
        x.row(2, 2, 6);
        DUE.is("bad a", x.copy(8, 0, 0, 0, 0), StairTunes.BAD);
        DUE.is("bad b", x.copy(0, 0, -1, 0, 0), StairTunes.BAD);
        DUE.is("bad ahead of null", x.copy(3, 0, 8, 0, 0), StairTunes.BAD);
        DUE.is("missing a", x.copy(3, 0, 0, 0, 1), NULL);
        DUE.is("missing b", x.copy(0, 0, 3, 0, 1), NULL);
        DUE.is("null ahead of place", x.copy(0, -1, 3, 0, 1), NULL);
        DUE.is("store ahead of place", x.copy(0, -1, 2, 0, 1), STORE);
        DUE.is("store of none", x.copy(2, 0, 0, 0, 0), STORE);
        DUE.is("i below", x.copy(0, -1, 1, 0, 1), PLACE);
        DUE.is("j below", x.copy(0, 0, 1, -1, 1), PLACE);
        DUE.is("n below", x.copy(0, 0, 1, 0, -1), PLACE);
        DUE.is("beyond a", x.copy(0, 5, 1, 0, 2), PLACE);
        DUE.is("beyond b", x.copy(0, 0, 1, 2, 2), PLACE);
        DUE.is("none beyond a", x.copy(0, 7, 1, 0, 0), PLACE);
        DUE.is("wrapped around", x.copy(0, Integer.MAX_VALUE, 1, 0, Integer.MAX_VALUE), PLACE);
        DUE.is("wrapped around b", x.copy(0, 1, 1, Integer.MAX_VALUE, 1), PLACE);
    }

    private static void promise5Drop() {
        StairTunes x = new StairTunes();
        x.row(2, 0, 17);
        DUE.is("drop", x.drop(2), 17);
        DUE.is("dropped", x.drop(2), NULL);
        DUE.is("set of dropped", x.set(2, 0, 0), NULL);
        DUE.is("rows then", x.count(0), 0);
        DUE.is("drop 8", x.drop(8), StairTunes.BAD);
        DUE.is("drop -1", x.drop(-1), StairTunes.BAD);
    }

    private static void promise40Status() {
        StairTunes x = new StairTunes();
        x.row(0, 0, -1);
        DUE.is("status of size", x.status(), 4);
        x.row(0, 3, 0);
        DUE.is("status past a bad row", x.status(), 4);
        x.set(0, 0, 0);
        DUE.is("status of null", x.status(), 1);
        x.row(0, 0, 4);
        DUE.is("status of a good row", x.status(), 0);
        x.set(0, 4, 0);
        DUE.is("status of place", x.status(), 2);
        x.set(0, 3, 0);
        DUE.is("status of a good set", x.status(), 0);
        x.row(1, 1, 4);
        x.copy(0, 0, 1, 0, 1);
        DUE.is("status of store", x.status(), 5);
        Due.tell(x, "t0,0;r0;z0,0,1,0;");
        x.tread(9, 9);
        x.days(0);
        x.undo();
        DUE.is("status past other calls", x.status(), 5);
        x.copy(0, 0, 0, 0, 1);
        DUE.is("status of a good copy", x.status(), 0);
        DUE.is("as another kind", x.as(0, 1), -1000013);
        DUE.is("status of kind", x.status(), 3);
        x.as(0, 6);
        DUE.is("status past a bad as", x.status(), 3);
        x.as(0, 4);
        DUE.is("status of a good as", x.status(), 0);
        x.what(0, 0, 0, 0, 7, 0, 1);
        DUE.is("status of what", x.status(), 1);
        x.what(0, 0, 0, 0, 0, 0, 1);
        DUE.is("status of a good what", x.status(), 0);
        x.who(0, 0, 0, 0, 0, 4, 1);
        DUE.is("status of who", x.status(), 2);
        x.who(0, 4, 0, 0, 0, 0, 1);
        DUE.is("status past a bad who", x.status(), 2);
        x.who(0, 0, 0, 0, 0, 0, 1);
        DUE.is("status of a good who", x.status(), 0);
        x.drop(5);
        DUE.is("status of drop", x.status(), 1);
        x.drop(0);
        DUE.is("status of a good drop", x.status(), 0);
    }
}
