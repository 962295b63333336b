import java.util.ArrayDeque;
import java.util.ArrayList;
import java.util.Arrays;
import java.util.Deque;
import java.util.HashSet;
import java.util.List;
import java.util.Set;
import java.util.TreeSet;

/**
 * The document told a second time, slowly and by other means than the program's:
 * the whole of each WALK is written down, and what is foretold is tried out.
 */
final class Model {
    static final int NONE = -1000000, BAD = -1000001, STATE = -1000002, FULL = -1000003;
    private static final int NULL = -1000011, PLACE = -1000012, KIND = -1000013, SIZE = -1000014,
            STORE = -1000015;

    /** One tread: a KIND by how it sounds, and by what it answers when it is asked. */
    private static class Tread {
        int kind;
        int note;
        int worn;

        Tread(int kind, int note, int worn) {
            this.kind = kind;
            this.note = note;
            this.worn = worn;
        }

        int tone() {
            int lost = 0;
            for (int w = 10; w <= worn; w += 10) {
                lost++;
            }
            return lost > note ? 0 : note - lost;
        }
    }

    private static final class Walker {
        int from;
        int to;
        int step;
        int start;

        Walker(int from, int to, int step, int start) {
            this.from = from;
            this.to = to;
            this.step = step;
            this.start = start;
        }

        List<Integer> walk() {
            List<Integer> walk = new ArrayList<>();
            int on = from;
            walk.add(on);
            while (on != to) {
                for (int s = 0; s < step && on != to; s++) {
                    on += on < to ? 1 : -1;
                }
                walk.add(on);
            }
            return walk;
        }

        int in(int minute) {
            List<Integer> walk = walk();
            int k = minute - start;
            return k < 0 || k >= walk.size() ? NONE : walk.get(k);
        }
    }

    private static final class Place {
        int wet;
        int reach;
        int day;
        List<Tread> treads = new ArrayList<>();
        List<Walker> walkers = new ArrayList<>();

        Place copy() {
            Place p = new Place();
            p.wet = wet;
            p.reach = reach;
            p.day = day;
            for (Tread t : treads) {
                p.treads.add(new Tread(t.kind, t.note, t.worn));
            }
            for (Walker w : walkers) {
                p.walkers.add(new Walker(w.from, w.to, w.step, w.start));
            }
            return p;
        }

        boolean wetNow() {
            boolean[] wetDays = {wet % 2 == 1, wet / 2 % 2 == 1, wet / 4 % 2 == 1, wet / 8 % 2 == 1};
            return wetDays[day % 4];
        }

        /** -1: it does not sound. */
        int sound(int t, int step) {
            Tread tread = treads.get(t);
            int tone = tread.tone();
            if (tread.kind == 1) {
                return tone;
            }
            if (tread.kind == 2) {
                return wetNow() && tone > 0 ? tone - 1 : tone;
            }
            if (tread.kind == 3) {
                int higher = tone + (step - 1);
                return higher > 9 ? 9 : higher;
            }
            if (tread.kind == 5 && step == 3) {
                return tone / 2;
            }
            return -1;
        }

        List<Integer> tune(int w) {
            List<Integer> tune = new ArrayList<>();
            for (int t : walkers.get(w).walk()) {
                tune.add(sound(t, walkers.get(w).step));
            }
            return tune;
        }

        Set<Integer> heard(int door, int minute) {
            Set<Integer> notes = new TreeSet<>();
            for (Walker w : walkers) {
                int t = w.in(minute);
                if (t != NONE && t - door <= reach && door - t <= reach && sound(t, w.step) >= 0) {
                    notes.add(sound(t, w.step));
                }
            }
            return notes;
        }

        boolean somethingHeard(int w, int door) {
            for (int t : walkers.get(w).walk()) {
                if (Math.abs(t - door) <= reach && sound(t, walkers.get(w).step) >= 0) {
                    return true;
                }
            }
            return false;
        }

        void pass() {
            for (Walker w : walkers) {
                for (int t : w.walk()) {
                    treads.get(t).worn = Math.min(99, treads.get(t).worn + 1);
                }
            }
            for (Walker w : walkers) {
                int from = w.from;
                w.from = w.to;
                w.to = from;
            }
            day++;
        }

        List<int[]> twins() {
            List<int[]> pairs = new ArrayList<>();
            for (int a = 0; a < walkers.size(); a++) {
                for (int b = a + 1; b < walkers.size(); b++) {
                    if (tune(a).equals(tune(b))) {
                        pairs.add(new int[] {a, b});
                    }
                }
            }
            return pairs;
        }
    }

    private Place now;
    private final Deque<Place> past = new ArrayDeque<>();
    private final Place[] images = new Place[2];
    private final int[][] rows = new int[8][];
    private final int[] lanes = new int[8];
    private final List<Integer> tape = new ArrayList<>();
    private List<Integer> trace = new ArrayList<>();
    private int fault;
    private int status;

    private static int bits(Iterable<Integer> set) {
        int bits = 0;
        for (int b : set) {
            bits |= 1 << b;
        }
        return bits;
    }

    private static boolean in(int v, int least, int most) {
        return least <= v && v <= most;
    }

    private boolean noRow(int row) {
        return !in(row, 0, 7);
    }

    private boolean noTread(int t) {
        return now == null || t < 0 || t >= now.treads.size();
    }

    private boolean noWalker(int w) {
        return now == null || w < 0 || w >= now.walkers.size();
    }

    private int found(int finding) {
        status = -1000010 - finding;
        return finding;
    }

    private int fine(int answer) {
        status = 0;
        return answer;
    }

    int row(int row, int lane, int n) {
        if (noRow(row) || !in(lane, 0, 2) || n > 40) {
            return BAD;
        }
        if (n < 0) {
            return found(SIZE);
        }
        rows[row] = new int[n];
        lanes[row] = lane;
        return fine(n);
    }

    int set(int row, int i, int v) {
        if (noRow(row)) {
            return BAD;
        }
        if (rows[row] == null) {
            return found(NULL);
        }
        if (!in(i, 0, rows[row].length - 1)) {
            return found(PLACE);
        }
        int shift = new int[] {24, 16, 0}[lanes[row]];
        rows[row][i] = v << shift >> shift;
        return fine(rows[row][i]);
    }

    private static boolean outside(int[] row, int i, int n) {
        return i < 0 || n < 0 || (long) i + n > row.length;
    }

    int copy(int a, int i, int b, int j, int n) {
        if (noRow(a) || noRow(b)) {
            return BAD;
        }
        if (rows[a] == null || rows[b] == null) {
            return found(NULL);
        }
        if (lanes[a] != lanes[b]) {
            return found(STORE);
        }
        if (outside(rows[a], i, n) || outside(rows[b], j, n)) {
            return found(PLACE);
        }
        int[] were = rows[a].clone();
        for (int k = 0; k < n; k++) {
            rows[b][j + k] = were[i + k];
        }
        return fine(n);
    }

    int drop(int row) {
        if (noRow(row)) {
            return BAD;
        }
        if (rows[row] == null) {
            return found(NULL);
        }
        int had = rows[row].length;
        rows[row] = null;
        return fine(had);
    }

    int feed(int letter) {
        if (!in(letter, 0, 255)) {
            return BAD;
        }
        if (tape.size() == 100) {
            return FULL;
        }
        tape.add(letter);
        return tape.size();
    }

    /** Thrown by the model's reader alone. */
    private static final class Fault extends RuntimeException {
        private static final long serialVersionUID = 1L;
        final int number;
        final int place;

        Fault(int number, int place) {
            this.number = number;
            this.place = place;
        }
    }

    /** Tokens: {sort, value, place}; sorts: a letter or a sign by itself, '0' a NUMBER, '?' none, '.' the end. */
    private List<int[]> tokens() {
        List<int[]> tokens = new ArrayList<>();
        for (int i = 0; i < tape.size();) {
            int c = tape.get(i);
            int j = i;
            int v = 0;
            while (j < tape.size() && in(tape.get(j), '0', '9')) {
                v = Math.min(10000, v * 10 + tape.get(j) - '0');
                j++;
            }
            if (j > i) {
                tokens.add(new int[] {j - i <= 2 ? '0' : '?', v, i});
                i = j;
            } else {
                boolean good = in(c, 'a', 'z') || c == ',' || c == ';';
                tokens.add(new int[] {good ? c : '?', 0, i});
                i++;
            }
        }
        tokens.add(new int[] {'.', 0, tape.size()});
        return tokens;
    }

    private static void sign(List<int[]> tokens, char sign) {
        int[] token = tokens.remove(0);
        if (token[0] != sign) {
            throw new Fault(1, token[2]);
        }
    }

    private static int number(List<int[]> tokens, int least, int most) {
        int[] token = tokens.remove(0);
        if (token[0] != '0') {
            throw new Fault(1, token[2]);
        }
        if (!in(token[1], least, most)) {
            throw new Fault(2, token[2]);
        }
        return token[1];
    }

    private static Place read(List<int[]> tokens) {
        Place p = new Place();
        sign(tokens, 't');
        p.wet = number(tokens, 0, 15);
        sign(tokens, ',');
        p.reach = number(tokens, 0, 9);
        sign(tokens, ';');
        do {
            int[] token = tokens.remove(0);
            int kind = 1 + "pslrf".indexOf(token[0]);
            if (kind == 0) {
                throw new Fault(1, token[2]);
            }
            if (p.treads.size() == 8) {
                throw new Fault(3, token[2]);
            }
            p.treads.add(new Tread(kind, number(tokens, 0, 9), 0));
            sign(tokens, ';');
        } while ("pslrf".indexOf(tokens.get(0)[0]) >= 0);
        do {
            int place = tokens.get(0)[2];
            sign(tokens, 'z');
            if (p.walkers.size() == 5) {
                throw new Fault(3, place);
            }
            int last = p.treads.size() - 1;
            int from = number(tokens, 0, last);
            sign(tokens, ',');
            int to = number(tokens, 0, last);
            sign(tokens, ',');
            int step = number(tokens, 1, 3);
            sign(tokens, ',');
            p.walkers.add(new Walker(from, to, step, number(tokens, 0, 20)));
            sign(tokens, ';');
        } while (tokens.get(0)[0] != '.');
        return p;
    }

    int town() {
        List<int[]> tokens = tokens();
        tape.clear();
        try {
            now = read(tokens);
        } catch (Fault f) {
            fault = f.number;
            return -1000100 - f.place;
        }
        past.clear();
        return now.treads.size();
    }

    int fault() {
        return fault;
    }

    int undo() {
        if (past.isEmpty()) {
            return STATE;
        }
        now = past.removeLast();
        return past.size();
    }

    private void act() {
        past.addLast(now.copy());
        if (past.size() > 24) {
            past.removeFirst();
        }
    }

    int days(int n) {
        if (now == null) {
            return STATE;
        }
        if (!in(n, 1, 24)) {
            return BAD;
        }
        if (now.day + n > 999) {
            return FULL;
        }
        for (int k = 0; k < n; k++) {
            act();
            now.pass();
        }
        int all = 0;
        for (Tread t : now.treads) {
            all += t.worn;
        }
        return all;
    }

    int plane(int tread, int note) {
        if (noTread(tread) || !in(note, 0, 9)) {
            return BAD;
        }
        int had = now.treads.get(tread).tone();
        act();
        now.treads.get(tread).note = note;
        now.treads.get(tread).worn = 0;
        return had;
    }

    int reach(int v) {
        if (now == null) {
            return STATE;
        }
        if (!in(v, 0, 9)) {
            return BAD;
        }
        int was = now.reach;
        act();
        now.reach = v;
        return was;
    }

    int way(int walker, int from, int to) {
        if (noWalker(walker) || noTread(from) || noTread(to)) {
            return BAD;
        }
        act();
        now.walkers.get(walker).from = from;
        now.walkers.get(walker).to = to;
        return length(walker);
    }

    int gait(int walker, int step, int start) {
        if (noWalker(walker) || !in(step, 1, 3) || !in(start, 0, 20)) {
            return BAD;
        }
        act();
        now.walkers.get(walker).step = step;
        now.walkers.get(walker).start = start;
        return length(walker);
    }

    int tread(int tread, int what) {
        if (noTread(tread) || !in(what, 0, 3)) {
            return BAD;
        }
        Tread t = now.treads.get(tread);
        Set<Integer> on = new HashSet<>();
        for (int w = 0; w < now.walkers.size(); w++) {
            if (now.walkers.get(w).walk().contains(tread)) {
                on.add(w);
            }
        }
        return new int[] {t.note, t.worn, t.tone(), bits(on)}[what];
    }

    int walker(int walker, int what) {
        if (noWalker(walker) || !in(what, 0, 3)) {
            return BAD;
        }
        Walker w = now.walkers.get(walker);
        return new int[] {w.from, w.to, w.step, w.start}[what];
    }

    int tune(int walker, int k) {
        if (noWalker(walker) || k < 0) {
            return BAD;
        }
        List<Integer> tune = now.tune(walker);
        if (k >= tune.size()) {
            return NONE;
        }
        return tune.get(k) < 0 ? 10 : tune.get(k);
    }

    int where(int walker, int minute) {
        return noWalker(walker) || !in(minute, 0, 29) ? BAD : now.walkers.get(walker).in(minute);
    }

    int heard(int tread, int minute) {
        return noTread(tread) || !in(minute, 0, 29) ? BAD : bits(now.heard(tread, minute));
    }

    int ahead(int tread, int n, int what) {
        if (noTread(tread) || !in(n, 0, 60) || !in(what, 0, 1)) {
            return BAD;
        }
        Place p = now.copy();
        for (int k = 0; k < n; k++) {
            p.pass();
        }
        return what == 0 ? p.treads.get(tread).tone() : p.treads.get(tread).worn;
    }

    int length(int walker) {
        return noWalker(walker) ? BAD : now.walkers.get(walker).walk().size();
    }

    int meet(int walker, int other) {
        if (noWalker(walker) || noWalker(other) || walker == other) {
            return BAD;
        }
        Walker a = now.walkers.get(walker);
        Walker b = now.walkers.get(other);
        for (int m = 0; m < 30; m++) {
            if (a.in(m) == NONE || b.in(m) == NONE) {
                continue;
            }
            if (a.in(m) == b.in(m) || a.in(m) == b.in(m - 1) && b.in(m) == a.in(m - 1)) {
                return m;
            }
        }
        return NONE;
    }

    int choir(int what) {
        if (now == null) {
            return STATE;
        }
        if (!in(what, 0, 1)) {
            return BAD;
        }
        int best = 29;
        int most = 0;
        for (int m = 29; m >= 0; m--) {
            Set<Integer> notes = new HashSet<>();
            for (int t = 0; t < now.treads.size(); t++) {
                notes.addAll(now.heard(t, m));
            }
            if (notes.size() >= most) {
                best = m;
                most = notes.size();
            }
        }
        return what == 0 ? best : most;
    }

    int twins(int what) {
        if (now == null) {
            return STATE;
        }
        if (!in(what, 0, 1)) {
            return BAD;
        }
        List<int[]> pairs = now.twins();
        if (what == 0) {
            return pairs.size();
        }
        return pairs.isEmpty() ? NONE : 10 * pairs.get(0)[0] + pairs.get(0)[1];
    }

    private interface Test {
        boolean good(int set);
    }

    private int fewest(int what, Test test) {
        for (int size = 0; size <= now.treads.size(); size++) {
            for (int set = 0; set < 1 << now.treads.size(); set++) {
                if (Integer.bitCount(set) == size && test.good(set)) {
                    return what == 0 ? size : set;
                }
            }
        }
        return NONE;
    }

    int felt(int walker, int tread, int what) {
        if (noWalker(walker) || noTread(tread) || !in(what, 0, 1)) {
            return BAD;
        }
        return fewest(what, set -> {
            Place p = now.copy();
            for (int t = 0; t < p.treads.size(); t++) {
                if ((set & 1 << t) != 0) {
                    p.treads.get(t).kind = 5;
                }
            }
            return !p.somethingHeard(walker, tread);
        });
    }

    int doors(int what) {
        if (now == null) {
            return STATE;
        }
        if (!in(what, 0, 1)) {
            return BAD;
        }
        return fewest(what, set -> {
            for (int w = 0; w < now.walkers.size(); w++) {
                boolean heard = false;
                for (int t = 0; t < now.treads.size(); t++) {
                    heard |= (set & 1 << t) != 0 && now.somethingHeard(w, t);
                }
                if (!heard) {
                    return false;
                }
            }
            return true;
        });
    }

    int planed(int what) {
        if (now == null) {
            return STATE;
        }
        if (!in(what, 0, 1)) {
            return BAD;
        }
        int best = -1;
        int least = 1000;
        for (int code = 0; code < 10 * now.treads.size(); code++) {
            Place p = now.copy();
            p.treads.set(code / 10, new Tread(p.treads.get(code / 10).kind, code % 10, 0));
            if (p.twins().size() < least) {
                least = p.twins().size();
                best = code;
            }
        }
        return what == 0 ? best : least;
    }

    int rise(int walker, int tread, int n, int what) {
        if (noWalker(walker) || noTread(tread) || !in(n, 1, 9) || !in(what, 0, 1)) {
            return BAD;
        }
        List<Integer> all = new ArrayList<>();
        for (int step = 1; step <= 3; step++) {
            for (int start = 0; start <= 20; start++) {
                Place p = now.copy();
                p.walkers.get(walker).step = step;
                p.walkers.get(walker).start = start;
                boolean fits = false;
                for (int m = 0; m < 40; m++) {
                    fits |= p.walkers.get(walker).in(m) != NONE && p.heard(tread, m).size() >= n;
                }
                if (fits) {
                    all.add(100 * step + start);
                }
            }
        }
        if (what == 0) {
            return all.size();
        }
        return all.isEmpty() ? NONE : all.get(0);
    }

    private static boolean isSo(Place p, int door, int minute, int[] told) {
        for (int k = 0; k < told.length; k++) {
            if (bits(p.heard(door, minute + k)) != told[k]) {
                return false;
            }
        }
        return true;
    }

    private boolean badTelling(int door, int minute, int row, int n) {
        return noTread(door) || !in(minute, 0, 29) || noRow(row) || !in(n, 1, 12);
    }

    int what(int tread, int which, int door, int minute, int row, int i, int n) {
        if (noTread(tread) || !in(which, 0, 1) || badTelling(door, minute, row, n)) {
            return BAD;
        }
        if (rows[row] == null) {
            return found(NULL);
        }
        if (outside(rows[row], i, n)) {
            return found(PLACE);
        }
        int[] told = Arrays.copyOfRange(rows[row], i, i + n);
        Set<Integer> fitting = new HashSet<>();
        for (int v = which == 0 ? 1 : 0; v <= (which == 0 ? 5 : 9); v++) {
            Place p = now.copy();
            if (which == 0) {
                p.treads.get(tread).kind = v;
            } else {
                p.treads.get(tread).note = v;
            }
            if (isSo(p, door, minute, told)) {
                fitting.add(v);
            }
        }
        return fine(bits(fitting));
    }

    int who(int walker, int which, int door, int minute, int row, int i, int n) {
        if (noWalker(walker) || !in(which, 0, 3) || badTelling(door, minute, row, n)) {
            return BAD;
        }
        if (rows[row] == null) {
            return found(NULL);
        }
        if (outside(rows[row], i, n)) {
            return found(PLACE);
        }
        int[] told = Arrays.copyOfRange(rows[row], i, i + n);
        Set<Integer> fitting = new HashSet<>();
        int last = now.treads.size() - 1;
        for (int v = which == 2 ? 1 : 0; v <= new int[] {last, last, 3, 20}[which]; v++) {
            Place p = now.copy();
            Walker w = p.walkers.get(walker);
            p.walkers.set(walker, new Walker(which == 0 ? v : w.from, which == 1 ? v : w.to,
                    which == 2 ? v : w.step, which == 3 ? v : w.start));
            if (isSo(p, door, minute, told)) {
                fitting.add(v);
            }
        }
        return fine(bits(fitting));
    }

    long rots(int walker, int tread, int p, int what) {
        if (noWalker(walker) || noTread(tread) || !in(p, 0, 10) || !in(what, 0, 1)) {
            return BAD;
        }
        List<Integer> sound = new ArrayList<>();
        for (int t = 0; t < now.treads.size(); t++) {
            if (now.treads.get(t).kind < 4) {
                sound.add(t);
            }
        }
        long loud = 0;
        long cases = 0;
        for (int set = 0; set < 1 << sound.size(); set++) {
            Place q = now.copy();
            long weight = 1;
            for (int k = 0; k < sound.size(); k++) {
                boolean rotten = (set & 1 << k) != 0;
                weight *= rotten ? p : 10 - p;
                if (rotten) {
                    q.treads.get(sound.get(k)).kind = 4;
                }
            }
            cases += weight;
            loud += q.somethingHeard(walker, tread) ? weight : 0;
        }
        for (long d : new long[] {2, 5}) {
            while (loud != 0 && loud % d == 0 && cases % d == 0) {
                loud /= d;
                cases /= d;
            }
        }
        return what == 0 ? loud : loud == 0 ? 1 : cases;
    }

    int drawn(int n, int seed, int what) {
        if (now == null) {
            return STATE;
        }
        if (!in(n, 0, 60) || !in(seed, 1, 999999) || !in(what, 0, 1)) {
            return BAD;
        }
        Place p = now.copy();
        long x = seed;
        int often = 0;
        for (int k = 0; k < n; k++) {
            x = x * 16807L % 2147483647L;
            if (x % 3 == 0) {
                int t = (int) (x % p.treads.size());
                p.treads.set(t, new Tread(p.treads.get(t).kind, (int) (x % 10), 0));
            }
            if (x % 4 == 0) {
                p.walkers.get((int) (x % p.walkers.size())).start = (int) (x % 21);
            }
            for (int w = 0; w < p.walkers.size(); w++) {
                for (int s : p.tune(w)) {
                    often += s >= 0 ? 1 : 0;
                }
            }
            p.pass();
        }
        int tones = 0;
        for (Tread t : p.treads) {
            tones += t.tone();
        }
        return what == 0 ? often : tones;
    }

    int image(int k) {
        if (!in(k, 0, 1)) {
            return BAD;
        }
        if (now == null) {
            return STATE;
        }
        images[k] = now.copy();
        return 1;
    }

    int restore(int k) {
        if (!in(k, 0, 1)) {
            return BAD;
        }
        if (images[k] == null) {
            return STATE;
        }
        now = images[k].copy();
        past.clear();
        return 1;
    }

    int kind(int one) {
        return noTread(one) ? BAD : now.treads.get(one).kind;
    }

    int as(int one, int kind) {
        if (noTread(one) || !in(kind, 0, 5)) {
            return BAD;
        }
        Class<?>[] classes = {Asked.class, Plain.class, Soft.class, Loose.class, Rotten.class, Felted.class};
        return classes[kind].isInstance(asked(one)) ? fine(one) : found(KIND);
    }

    int ask(int one, int what) {
        if (noTread(one) || !in(what, 0, 1)) {
            return BAD;
        }
        trace = new ArrayList<>();
        Asked asked = asked(one);
        return what == 0 ? asked.size() : asked.mark();
    }

    int trace(int i) {
        return i < 0 || i >= trace.size() || i > 15 ? NONE : trace.get(i);
    }

    int count(int what) {
        int there = 0;
        for (int[] row : rows) {
            there += row == null ? 0 : 1;
        }
        switch (what) {
            case 0: return there;
            case 1: return now == null ? 0 : now.treads.size();
            case 2: return now == null ? 0 : now.walkers.size();
            case 3: return now == null ? 0 : now.day;
            case 4: return now != null && now.wetNow() ? 1 : 0;
            case 5: return now == null ? 0 : now.reach;
            case 6: return past.size();
            case 7: return tape.size();
            default: return BAD;
        }
    }

    int status() {
        return status;
    }

    private Asked asked(int one) {
        Tread t = now.treads.get(one);
        Asked asked = new Asked[] {new Plain(), new Soft(), new Loose(), new Rotten(), new Felted()}[t.kind - 1];
        asked.number = one;
        asked.note = t.note;
        asked.worn = t.worn;
        asked.trace = trace;
        return asked;
    }

    // The BODIES as Java itself would choose them.
    private static class Asked {
        int number;
        int note;
        int worn;
        List<Integer> trace;

        int size() {
            trace.add(10);
            return note;
        }

        int mark() {
            trace.add(20);
            return number;
        }
    }

    private static class Plain extends Asked {
        @Override int size() {
            trace.add(11);
            return super.size() + mark();
        }

        @Override int mark() {
            trace.add(21);
            return super.mark() + worn;
        }
    }

    private static class Soft extends Plain {
        @Override int size() {
            trace.add(12);
            return -super.size();
        }

        @Override int mark() {
            trace.add(24);
            return 2 * super.mark();
        }
    }

    private static class Loose extends Plain {
        @Override int mark() {
            trace.add(22);
            return super.mark() - 1000;
        }
    }

    private static class Rotten extends Asked {
        @Override int size() {
            trace.add(13);
            return super.size() - 100;
        }

        @Override int mark() {
            trace.add(23);
            return super.mark() - size();
        }
    }

    private static class Felted extends Rotten {
        @Override int size() {
            trace.add(14);
            return 2 * super.size();
        }
    }
}
