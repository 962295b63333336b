import java.util.Random;

/** Drawn runs of calls, each answered by the program and by the model of the document. */
public final class ModelTest {
    private static final int RUNS = 700, CALLS = 512, CALLS_KNOWN = 40;

    private final Due due = new Due();
    private final Random random;
    private StairTunes x;
    private Model m;
    private String run;
    private int calls;

    private ModelTest(long seed) {
        random = new Random(seed);
    }

    public static void main(String[] args) {
        ModelTest test = new ModelTest(20261119);
        for (int run = 0; run < RUNS; run++) {
            test.oneRun(run);
        }
        test.due.end();
    }

    private void oneRun(int number) {
        x = new StairTunes();
        m = new Model();
        run = "run " + number;
        calls = 0;
        if (random.nextInt(10) > 0) {
            tell(townText());
        }
        for (int row = 0; row < 3; row++) {
            is("row", x.row(row, row, 12), m.row(row, row, 12));
        }
        while (calls < CALLS) {
            call(random.nextInt(CALLS_KNOWN));
        }
    }

    private void is(String call, long got, long want) {
        calls++;
        due.is(run + ", call " + calls + ", " + call, got, want);
    }

    /** Mostly a number as told, now and then one that is not. */
    private int any(int least, int most) {
        int way = random.nextInt(40);
        if (way == 0) {
            return least - 1;
        }
        if (way == 1) {
            return most + 1;
        }
        if (way == 2) {
            return new int[] {Integer.MIN_VALUE, Integer.MAX_VALUE, -1000, 1000}[random.nextInt(4)];
        }
        return least + random.nextInt(most - least + 1);
    }

    private int some(int count) {
        return any(0, Math.max(0, count - 1));
    }

    private int aTread() {
        return some(m.count(1));
    }

    private int aWalker() {
        return some(m.count(2));
    }

    private int aRow() {
        return random.nextInt(12) == 0 ? any(0, 7) : random.nextInt(3);
    }

    private String townText() {
        int treads = 1 + random.nextInt(8);
        int walkers = 1 + random.nextInt(5);
        StringBuilder s = new StringBuilder();
        s.append('t').append(random.nextInt(16)).append(',').append(random.nextInt(random.nextBoolean() ? 3 : 10));
        for (int t = 0; t < treads; t++) {
            s.append(';').append("pslrf".charAt(random.nextInt(5))).append(random.nextInt(10));
        }
        int late = random.nextBoolean() ? 4 : 21;
        for (int w = 0; w < walkers; w++) {
            s.append(";z").append(random.nextInt(treads)).append(',').append(random.nextInt(treads));
            s.append(',').append(1 + random.nextInt(3)).append(',').append(random.nextInt(late));
        }
        return s.append(';').toString();
    }

    private String brokenText() {
        StringBuilder s = new StringBuilder(townText());
        int changes = random.nextInt(3);
        for (int k = 0; k < changes; k++) {
            int i = random.nextInt(s.length());
            char c = "tpslrfz,;0123456789ax A\u00ff/:`{".charAt(random.nextInt(27));
            switch (random.nextInt(4)) {
                case 0: s.setCharAt(i, c); break;
                case 1: s.insert(i, c); break;
                case 2: s.deleteCharAt(i); break;
                default: s.setLength(i + 1); break;
            }
            if (s.length() == 0) {
                s.append(c);
            }
        }
        return s.toString();
    }

    private void tell(String text) {
        // What stands on the tape would be a FAULT ahead of all that is told.
        if (m.count(7) > 0 && random.nextInt(8) > 0) {
            is("town", x.town(), m.town());
        }
        for (int i = 0; i < text.length(); i++) {
            is("feed", x.feed(text.charAt(i)), m.feed(text.charAt(i)));
        }
        is("town of " + text, x.town(), m.town());
        is("fault", x.fault(), m.fault());
    }

    private void call(int which) {
        if (which < 20) {
            callDone(which);
        } else if (which < 33) {
            callForetold(which);
        } else {
            callAsked(which);
        }
        if (random.nextInt(8) == 0) {
            is("status", x.status(), m.status());
        }
    }

    private void callDone(int which) {
        int t = aTread();
        int w = aWalker();
        int a = aRow();
        int b = aRow();
        int i = any(0, 11);
        int n = any(0, 12);
        int v = random.nextInt();
        switch (which) {
            case 0:
                if (random.nextInt(4) == 0) {
                    int lane = any(0, 2);
                    is("row", x.row(a, lane, n), m.row(a, lane, n));
                } else {
                    is("count", x.count(0), m.count(0));
                }
                break;
            case 1: is("set", x.set(a, i, v), m.set(a, i, v)); break;
            case 2: is("copy", x.copy(a, i, b, n, i), m.copy(a, i, b, n, i)); break;
            case 3:
                if (random.nextInt(6) == 0) {
                    is("drop", x.drop(a), m.drop(a));
                }
                break;
            case 4:
                int letter = any(0, 255);
                is("feed", x.feed(letter), m.feed(letter));
                break;
            case 5:
                if (random.nextInt(4) == 0) {
                    tell(random.nextInt(3) == 0 ? townText() : brokenText());
                }
                break;
            case 6: is("undo", x.undo(), m.undo()); break;
            case 7:
                int days = random.nextBoolean() ? any(1, 24) : 1 + random.nextInt(4);
                is("days " + days, x.days(days), m.days(days));
                break;
            case 8: is("plane", x.plane(t, i), m.plane(t, i)); break;
            case 9:
                int reach = random.nextInt(3) > 0 ? random.nextInt(3) : any(0, 9);
                is("reach", x.reach(reach), m.reach(reach));
                break;
            case 10:
                int to = aTread();
                is("way", x.way(w, t, to), m.way(w, t, to));
                break;
            case 11:
                int step = any(1, 3);
                int start = random.nextBoolean() ? random.nextInt(4) : any(0, 20);
                is("gait", x.gait(w, step, start), m.gait(w, step, start));
                break;
            case 12:
                int of = any(0, 3);
                is("tread", x.tread(t, of), m.tread(t, of));
                is("walker", x.walker(w, of), m.walker(w, of));
                break;
            case 13:
                int k = any(0, 8);
                is("tune", x.tune(w, k), m.tune(w, k));
                break;
            case 14:
                int minute = any(0, 29);
                is("where", x.where(w, minute), m.where(w, minute));
                break;
            case 15:
            case 16:
                int at = random.nextBoolean() ? random.nextInt(8) : any(0, 29);
                is("heard", x.heard(t, at), m.heard(t, at));
                break;
            case 17: is("image", x.image(i - 4), m.image(i - 4)); break;
            case 18: is("restore", x.restore(i - 4), m.restore(i - 4)); break;
            default:
                int what = any(0, 7);
                is("count " + what, x.count(what), m.count(what));
                break;
        }
    }

    private void callForetold(int which) {
        int t = aTread();
        int w = aWalker();
        int what = any(0, 1);
        switch (which) {
            case 20:
                int days = any(0, 60);
                is("ahead", x.ahead(t, days, what), m.ahead(t, days, what));
                break;
            case 21: is("length", x.length(w), m.length(w)); break;
            case 22:
                int other = aWalker();
                is("meet", x.meet(w, other), m.meet(w, other));
                break;
            case 23: is("choir", x.choir(what), m.choir(what)); break;
            case 24: is("twins", x.twins(what), m.twins(what)); break;
            case 25: is("felt", x.felt(w, t, what), m.felt(w, t, what)); break;
            case 26: is("doors", x.doors(what), m.doors(what)); break;
            case 27: is("planed", x.planed(what), m.planed(what)); break;
            case 28:
                int n = random.nextInt(3) > 0 ? 1 + random.nextInt(3) : any(1, 9);
                is("rise", x.rise(w, t, n, what), m.rise(w, t, n, what));
                break;
            case 29: listen(true); break;
            case 30: listen(false); break;
            case 31:
                int p = any(0, 10);
                is("rots", x.rots(w, t, p, what), m.rots(w, t, p, what));
                break;
            default:
                int seed = any(1, 999999);
                int weeks = any(0, 60);
                is("drawn", x.drawn(weeks, seed, what), m.drawn(weeks, seed, what));
                break;
        }
    }

    /** A row that mostly tells what is indeed heard there. */
    private void listen(boolean what) {
        int one = what ? aTread() : aWalker();
        int which = any(0, what ? 1 : 3);
        int door = aTread();
        int minute = random.nextInt(3) > 0 ? random.nextInt(8) : any(0, 29);
        int row = aRow();
        int n = random.nextInt(8) > 0 ? 1 + random.nextInt(3) : any(1, 12);
        int i = random.nextInt(10) > 0 ? random.nextInt(5) : any(0, 11);
        for (int k = 0; k < n && k < 3; k++) {
            int sounds = random.nextInt(6) > 0 ? m.heard(door, minute + k) : random.nextInt(32);
            is("set", x.set(row, i + k, sounds), m.set(row, i + k, sounds));
        }
        if (what) {
            is("what", x.what(one, which, door, minute, row, i, n), m.what(one, which, door, minute, row, i, n));
        } else {
            is("who", x.who(one, which, door, minute, row, i, n), m.who(one, which, door, minute, row, i, n));
        }
    }

    private void callAsked(int which) {
        int t = aTread();
        switch (which) {
            case 33: is("kind", x.kind(t), m.kind(t)); break;
            case 34:
                int kind = any(0, 5);
                is("as", x.as(t, kind), m.as(t, kind));
                break;
            case 35:
            case 36:
                int what = any(0, 1);
                is("ask", x.ask(t, what), m.ask(t, what));
                for (int i = -1; i < 8; i++) {
                    is("trace", x.trace(i), m.trace(i));
                }
                break;
            case 37:
                int i = any(0, 16);
                is("trace", x.trace(i), m.trace(i));
                break;
            default: is("status", x.status(), m.status()); break;
        }
    }
}
