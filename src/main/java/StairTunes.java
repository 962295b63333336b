/** A terraced town of wooden steps that sound, and of walkers that are known by their tunes. */
public final class StairTunes {
    public static final int NONE = -1000000, BAD = -1000001, STATE = -1000002, FULL = -1000003;

    private static final int FINDINGS = -1000010;
    private static final int NO_FINDING = 0, NULL = 1, PLACE = 2, KIND = 3, SIZE = 4, STORE = 5;
    private static final int FAULTS = -1000100;

    private static final int TREADS = 8, WALKERS = 5, MINUTES = 30, REST = 10;
    private static final int ACTS = 24, IMAGES = 2;
    private static final int MOST_DAYS = 24, LAST_DAY = 999, MOST_AHEAD = 60;
    private static final int MOST_NOTE = 9, MOST_REACH = 9, MOST_WET = 15, MOST_WORN = 99;
    private static final int MOST_STEP = 3, MOST_START = 20, MOST_SEED = 999999;
    private static final int MOST_TOLD = 12;

    private static final int TREAD = 0, PLAIN = 1, SOFT = 2, LOOSE = 3, ROTTEN = 4, FELTED = 5;
    private static final int FROM = 0, TO = 1, STEP = 2, START = 3, PARTS = 4;

    private final Shelf shelf;
    private final Reader reader;
    private final Town town;
    private final Past past;
    private final Town[] images;
    private final Seer seer;
    private final Asks asks;
    private int finding;

    public StairTunes() {
        shelf = new Shelf();
        reader = new Reader();
        town = new Town();
        past = new Past();
        images = new Town[IMAGES];
        for (int k = 0; k < IMAGES; k++) {
            images[k] = new Town();
        }
        seer = new Seer();
        asks = new Asks();
        finding = NO_FINDING;
    }

    // ---- rows

    public int row(int row, int lane, int n) {
        if (!shelf.isRow(row) || !shelf.isLane(lane) || n > Shelf.MOST_ITEMS) {
            return BAD;
        }
        finding = n < 0 ? SIZE : NO_FINDING;
        return finding != NO_FINDING ? FINDINGS - finding : shelf.lay(row, lane, n);
    }

    public int set(int row, int i, int v) {
        if (!shelf.isRow(row)) {
            return BAD;
        }
        finding = shelf.findingOf(row, i, 1);
        return finding != NO_FINDING ? FINDINGS - finding : shelf.put(row, i, v);
    }

    public int copy(int a, int i, int b, int j, int n) {
        if (!shelf.isRow(a) || !shelf.isRow(b)) {
            return BAD;
        }
        finding = shelf.findingOfCopy(a, i, b, j, n);
        return finding != NO_FINDING ? FINDINGS - finding : shelf.move(a, i, b, j, n);
    }

    public int drop(int row) {
        if (!shelf.isRow(row)) {
            return BAD;
        }
        finding = shelf.isMissing(row) ? NULL : NO_FINDING;
        return finding != NO_FINDING ? FINDINGS - finding : shelf.takeAway(row);
    }

    // ---- what is told

    public int feed(int letter) {
        if (!isWithin(letter, 0, 255)) {
            return BAD;
        }
        return reader.add(letter);
    }

    public int town() {
        Town told = reader.readTape();
        if (told == null) {
            return FAULTS - reader.faultPlace();
        }
        town.take(told);
        past.forget();
        return town.treadCount();
    }

    public int fault() {
        return reader.faultNumber();
    }

    public int undo() {
        return past.takeBack(town);
    }

    // ---- what is done

    public int days(int n) {
        if (!town.stands()) {
            return STATE;
        }
        if (!isWithin(n, 1, MOST_DAYS)) {
            return BAD;
        }
        if (town.dayNumber() + n > LAST_DAY) {
            return FULL;
        }
        for (int k = 0; k < n; k++) {
            past.keep(town);
            town.passDay();
        }
        return town.wornTogether();
    }

    public int plane(int tread, int note) {
        if (!town.hasTread(tread) || !isWithin(note, 0, MOST_NOTE)) {
            return BAD;
        }
        int had = town.toneOf(tread);
        past.keep(town);
        town.planeTo(tread, note);
        return had;
    }

    public int reach(int v) {
        if (!town.stands()) {
            return STATE;
        }
        if (!isWithin(v, 0, MOST_REACH)) {
            return BAD;
        }
        int was = town.reachNow();
        past.keep(town);
        town.setReach(v);
        return was;
    }

    public int way(int walker, int from, int to) {
        return changed(walker, FROM, from, to);
    }

    public int gait(int walker, int step, int start) {
        return changed(walker, STEP, step, start);
    }

    public int tread(int tread, int what) {
        if (!town.hasTread(tread) || !isWithin(what, 0, 3)) {
            return BAD;
        }
        switch (what) {
            case 0:
                return town.noteOf(tread);
            case 1:
                return town.wornOf(tread);
            case 2:
                return town.toneOf(tread);
            default:
                return town.walkersOn(tread);
        }
    }

    public int walker(int walker, int what) {
        if (!town.hasWalker(walker) || !isWithin(what, 0, PARTS - 1)) {
            return BAD;
        }
        return town.partOf(walker, what);
    }

    public int tune(int walker, int k) {
        if (!town.hasWalker(walker) || k < 0) {
            return BAD;
        }
        return town.soundOf(walker, k);
    }

    public int where(int walker, int minute) {
        if (!town.hasWalker(walker) || !isMinute(minute)) {
            return BAD;
        }
        return town.placeIn(walker, minute);
    }

    public int heard(int tread, int minute) {
        if (!town.hasTread(tread) || !isMinute(minute)) {
            return BAD;
        }
        return town.heardAt(tread, minute);
    }

    // ---- foretold

    public int ahead(int tread, int n, int what) {
        if (!town.hasTread(tread) || !isWithin(n, 0, MOST_AHEAD) || !isFirstOrSecond(what)) {
            return BAD;
        }
        return seerOfNow().treadIn(tread, n, what);
    }

    public int length(int walker) {
        if (!town.hasWalker(walker)) {
            return BAD;
        }
        return town.longOf(walker);
    }

    public int meet(int walker, int other) {
        if (!town.hasWalker(walker) || !town.hasWalker(other) || walker == other) {
            return BAD;
        }
        return seerOfNow().meetingOf(walker, other);
    }

    public int choir(int what) {
        if (!town.stands()) {
            return STATE;
        }
        return isFirstOrSecond(what) ? seerOfNow().fullestMinute(what) : BAD;
    }

    public int twins(int what) {
        if (!town.stands()) {
            return STATE;
        }
        if (!isFirstOrSecond(what)) {
            return BAD;
        }
        return what == 0 ? seerOfNow().twinCount() : seerOfNow().firstTwins();
    }

    public int felt(int walker, int tread, int what) {
        if (!town.hasWalker(walker) || !town.hasTread(tread) || !isFirstOrSecond(what)) {
            return BAD;
        }
        return seerOfNow().fewestFelts(walker, tread, what);
    }

    public int doors(int what) {
        if (!town.stands()) {
            return STATE;
        }
        return isFirstOrSecond(what) ? seerOfNow().fewestDoors(what) : BAD;
    }

    public int planed(int what) {
        if (!town.stands()) {
            return STATE;
        }
        return isFirstOrSecond(what) ? seerOfNow().bestPlaning(what) : BAD;
    }

    public int rise(int walker, int tread, int n, int what) {
        if (!town.hasWalker(walker) || !town.hasTread(tread)
                || !isWithin(n, 1, 9) || !isFirstOrSecond(what)) {
            return BAD;
        }
        return seerOfNow().risesOf(walker, tread, n, what);
    }

    public int what(int tread, int which, int door, int minute, int row, int i, int n) {
        if (!town.hasTread(tread) || !isWithin(which, 0, 1) || !isTelling(door, minute, row, n)) {
            return BAD;
        }
        finding = shelf.findingOf(row, i, n);
        if (finding != NO_FINDING) {
            return FINDINGS - finding;
        }
        Seer seen = seerOfRow(row, i, n);
        return which == 0 ? seen.kindsBy(tread, door, minute) : seen.notesBy(tread, door, minute);
    }

    public int who(int walker, int which, int door, int minute, int row, int i, int n) {
        if (!town.hasWalker(walker) || !isWithin(which, 0, PARTS - 1)
                || !isTelling(door, minute, row, n)) {
            return BAD;
        }
        finding = shelf.findingOf(row, i, n);
        if (finding != NO_FINDING) {
            return FINDINGS - finding;
        }
        return seerOfRow(row, i, n).partsBy(walker, which, door, minute);
    }

    public long rots(int walker, int tread, int p, int what) {
        if (!town.hasWalker(walker) || !town.hasTread(tread)
                || !isWithin(p, 0, 10) || !isFirstOrSecond(what)) {
            return BAD;
        }
        return seerOfNow().likelihood(walker, tread, p, what);
    }

    public int drawn(int n, int seed, int what) {
        if (!town.stands()) {
            return STATE;
        }
        if (!isWithin(n, 0, MOST_AHEAD) || !isWithin(seed, 1, MOST_SEED) || !isFirstOrSecond(what)) {
            return BAD;
        }
        return seerOfNow().weeksBy(n, seed, what);
    }

    public int image(int k) {
        if (!isWithin(k, 0, IMAGES - 1)) {
            return BAD;
        }
        Town kept = images[k];
        if (kept == null || !town.stands()) {
            return STATE;
        }
        kept.take(town);
        return 1;
    }

    public int restore(int k) {
        if (!isWithin(k, 0, IMAGES - 1)) {
            return BAD;
        }
        Town kept = images[k];
        if (kept == null || !kept.stands()) {
            return STATE;
        }
        town.take(kept);
        past.forget();
        return 1;
    }

    // ---- asked

    public int kind(int one) {
        return town.hasTread(one) ? town.kindOf(one) : BAD;
    }

    public int as(int one, int kind) {
        if (!town.hasTread(one) || !isWithin(kind, TREAD, FELTED)) {
            return BAD;
        }
        finding = asks.isA(town.kindOf(one), kind) ? NO_FINDING : KIND;
        return finding != NO_FINDING ? FINDINGS - finding : one;
    }

    public int ask(int one, int what) {
        if (!town.hasTread(one) || !isFirstOrSecond(what)) {
            return BAD;
        }
        return asks.answerOf(town, one, what);
    }

    public int trace(int i) {
        return asks.traceAt(i);
    }

    public int count(int what) {
        switch (what) {
            case 0:
                return shelf.rowCount();
            case 1:
                return town.treadCount();
            case 2:
                return town.walkerCount();
            case 3:
                return town.dayNumber();
            case 4:
                return town.isWet() ? 1 : 0;
            case 5:
                return town.reachNow();
            case 6:
                return past.keptCount();
            case 7:
                return reader.byteCount();
            default:
                return BAD;
        }
    }

    public int status() {
        return finding;
    }

    /** Changes a part of a WALKER and the one behind it, as one ACT. */
    private int changed(int walker, int part, int first, int second) {
        if (!town.hasWalker(walker) || !town.canBe(part, first) || !town.canBe(part + 1, second)) {
            return BAD;
        }
        past.keep(town);
        town.setPart(walker, part, first);
        town.setPart(walker, part + 1, second);
        return town.longOf(walker);
    }

    private boolean isTelling(int door, int minute, int row, int n) {
        return town.hasTread(door) && isMinute(minute) && shelf.isRow(row)
                && isWithin(n, 1, MOST_TOLD);
    }

    // The seer works on a copy: what is foretold changes nothing.
    private Seer seerOfNow() {
        seer.lookAt(town);
        return seer;
    }

    private Seer seerOfRow(int row, int i, int n) {
        seer.lookAt(town);
        for (int k = 0; k < n; k++) {
            seer.hearFrom(shelf.itemAt(row, i + k));
        }
        return seer;
    }

    private static boolean isMinute(int minute) {
        return isWithin(minute, 0, MINUTES - 1);
    }

    private static boolean isFirstOrSecond(int what) {
        return what == 0 || what == 1;
    }

    private static boolean isWithin(int v, int least, int most) {
        return v >= least && v <= most;
    }

    /** The ROWS, one behind the other in a single array. */
    private static final class Shelf {
        static final int MOST_ITEMS = 40;
        private static final int ROWS = 8, LANES = 3, BYTES = 0, SHORTS = 1, MISSING = -1;

        private final int[] items;
        private final int[] lanes;
        private final int[] sizes;

        Shelf() {
            items = new int[ROWS * MOST_ITEMS];
            lanes = new int[ROWS];
            sizes = new int[ROWS];
            for (int row = 0; row < ROWS; row++) {
                sizes[row] = MISSING;
            }
        }

        boolean isRow(int row) {
            return row >= 0 && row < ROWS;
        }

        boolean isLane(int lane) {
            return lane >= 0 && lane < LANES;
        }

        boolean isMissing(int row) {
            return !isRow(row) || sizes[row] < 0;
        }

        int rowCount() {
            int there = 0;
            for (int row = 0; row < ROWS; row++) {
                if (sizes[row] >= 0) {
                    there++;
                }
            }
            return there;
        }

        /** What is wrong with n places of a ROW from i on. */
        int findingOf(int row, int i, int n) {
            if (isMissing(row)) {
                return NULL;
            }
            // Told without i + n, which could wrap around.
            boolean fits = i >= 0 && n >= 0 && n <= sizes[row] && i <= sizes[row] - n;
            return fits ? NO_FINDING : PLACE;
        }

        int findingOfCopy(int a, int i, int b, int j, int n) {
            if (isMissing(a) || isMissing(b)) {
                return NULL;
            }
            if (lanes[a] != lanes[b]) {
                return STORE;
            }
            int first = findingOf(a, i, n);
            return first != NO_FINDING ? first : findingOf(b, j, n);
        }

        int lay(int row, int lane, int n) {
            if (!isRow(row) || n < 0 || n > MOST_ITEMS) {
                return BAD;
            }
            lanes[row] = lane;
            sizes[row] = n;
            for (int i = 0; i < n; i++) {
                items[row * MOST_ITEMS + i] = 0;
            }
            return n;
        }

        int put(int row, int i, int v) {
            if (findingOf(row, i, 1) != NO_FINDING) {
                return BAD;
            }
            int kept = v;
            if (lanes[row] == BYTES) {
                kept = (byte) v;
            } else if (lanes[row] == SHORTS) {
                kept = (short) v;
            }
            items[row * MOST_ITEMS + i] = kept;
            return kept;
        }

        int itemAt(int row, int i) {
            return findingOf(row, i, 1) != NO_FINDING ? 0 : items[row * MOST_ITEMS + i];
        }

        int move(int a, int i, int b, int j, int n) {
            if (findingOfCopy(a, i, b, j, n) != NO_FINDING) {
                return BAD;
            }
            System.arraycopy(items, a * MOST_ITEMS + i, items, b * MOST_ITEMS + j, n);
            return n;
        }

        int takeAway(int row) {
            if (isMissing(row)) {
                return BAD;
            }
            int had = sizes[row];
            sizes[row] = MISSING;
            return had;
        }
    }

    /** The tape, and the reading of it. */
    private static final class Reader {
        private static final int MOST_BYTES = 100, NO_NUMBER = -1;
        private static final int MISPLACED = 1, OUT_OF_RANGE = 2, NO_ROOM = 3;

        private final int[] tape;
        private final Town draft;
        private int bytes;
        private int at;
        private int fault;
        private int place;

        Reader() {
            tape = new int[MOST_BYTES];
            draft = new Town();
        }

        int add(int letter) {
            if (bytes >= MOST_BYTES) {
                return FULL;
            }
            tape[bytes] = letter;
            bytes++;
            return bytes;
        }

        int byteCount() {
            return bytes;
        }

        int faultNumber() {
            return fault;
        }

        int faultPlace() {
            return place;
        }

        /** The TOWN that the tape tells, or null at a FAULT; the tape is empty then. */
        Town readTape() {
            at = 0;
            boolean good = readLaw() && readTreads() && readWalkers();
            bytes = 0;
            return good ? draft : null;
        }

        private boolean readLaw() {
            if (!readSign('t')) {
                return false;
            }
            int wet = readNumber(0, MOST_WET);
            if (wet == NO_NUMBER || !readSign(',')) {
                return false;
            }
            int reach = readNumber(0, MOST_REACH);
            if (reach == NO_NUMBER || !readSign(';')) {
                return false;
            }
            draft.begin(wet, reach);
            return true;
        }

        private boolean readTreads() {
            for (int t = 0; t <= TREADS; t++) {
                int kind = kindOfSort(letter());
                if (kind == TREAD) {
                    return t > 0 || fail(MISPLACED);
                }
                if (t == TREADS) {
                    return fail(NO_ROOM);
                }
                at++;
                int note = readNumber(0, MOST_NOTE);
                if (note == NO_NUMBER || !readSign(';')) {
                    return false;
                }
                draft.addTread(kind, note);
            }
            return false;
        }

        private boolean readWalkers() {
            for (int w = 0; w <= WALKERS; w++) {
                if (w > 0 && at >= bytes) {
                    return true;
                }
                if (letter() != 'z') {
                    return fail(MISPLACED);
                }
                if (w == WALKERS) {
                    return fail(NO_ROOM);
                }
                at++;
                if (!readWalker(w)) {
                    return false;
                }
            }
            return false;
        }

        private boolean readWalker(int w) {
            draft.addWalker();
            for (int part = 0; part < PARTS; part++) {
                int v = readNumber(draft.leastOf(part), draft.mostOf(part));
                if (v == NO_NUMBER || !readSign(part < PARTS - 1 ? ',' : ';')) {
                    return false;
                }
                draft.setPart(w, part, v);
            }
            return true;
        }

        private static int kindOfSort(int letter) {
            switch (letter) {
                case 'p':
                    return PLAIN;
                case 's':
                    return SOFT;
                case 'l':
                    return LOOSE;
                case 'r':
                    return ROTTEN;
                case 'f':
                    return FELTED;
                default:
                    return TREAD;
            }
        }

        private boolean readSign(int sign) {
            if (letter() != sign) {
                return fail(MISPLACED);
            }
            at++;
            return true;
        }

        private int readNumber(int least, int most) {
            int figures = 0;
            int v = 0;
            for (int k = at; k < bytes && k < MOST_BYTES && figures < 3; k++) {
                if (tape[k] < '0' || tape[k] > '9') {
                    break;
                }
                v = v * 10 + tape[k] - '0';
                figures++;
            }
            if (figures < 1 || figures > 2) {
                fail(MISPLACED);
                return NO_NUMBER;
            }
            if (v < least || v > most) {
                fail(OUT_OF_RANGE);
                return NO_NUMBER;
            }
            at += figures;
            return v;
        }

        /** The byte to be read next; NONE at the end. */
        private int letter() {
            return at >= 0 && at < bytes && at < MOST_BYTES ? tape[at] : NONE;
        }

        private boolean fail(int number) {
            fault = number;
            place = at;
            return false;
        }
    }

    /** A TOWN: its TREADS, its WALKERS, its law and its DAY. */
    private static final class Town {
        private final int[] kinds;
        private final int[] notes;
        private final int[] wears;
        private final int[] parts;
        private int treads;
        private int walkers;
        private int wet;
        private int reach;
        private int day;

        Town() {
            kinds = new int[TREADS];
            notes = new int[TREADS];
            wears = new int[TREADS];
            parts = new int[WALKERS * PARTS];
        }

        void take(Town other) {
            if (other == null) {
                return;
            }
            System.arraycopy(other.kinds, 0, kinds, 0, TREADS);
            System.arraycopy(other.notes, 0, notes, 0, TREADS);
            System.arraycopy(other.wears, 0, wears, 0, TREADS);
            System.arraycopy(other.parts, 0, parts, 0, WALKERS * PARTS);
            treads = other.treads;
            walkers = other.walkers;
            wet = other.wet;
            reach = other.reach;
            day = other.day;
        }

        void begin(int wetDays, int reachTold) {
            wet = wetDays;
            reach = reachTold;
            day = 0;
            treads = 0;
            walkers = 0;
        }

        void addTread(int kind, int note) {
            if (treads < 0 || treads >= TREADS) {
                return;
            }
            kinds[treads] = kind;
            notes[treads] = note;
            wears[treads] = 0;
            treads++;
        }

        void addWalker() {
            if (walkers < WALKERS) {
                walkers++;
            }
        }

        boolean stands() {
            return treads > 0;
        }

        boolean hasTread(int t) {
            return t >= 0 && t < treads;
        }

        boolean hasWalker(int w) {
            return w >= 0 && w < walkers;
        }

        int treadCount() {
            return treads;
        }

        int walkerCount() {
            return walkers;
        }

        int reachNow() {
            return reach;
        }

        int dayNumber() {
            return day;
        }

        boolean isWet() {
            return (wet >> day % 4 & 1) == 1;
        }

        int leastOf(int part) {
            return part == STEP ? 1 : 0;
        }

        int mostOf(int part) {
            switch (part) {
                case STEP:
                    return MOST_STEP;
                case START:
                    return MOST_START;
                default:
                    return treads - 1;
            }
        }

        boolean canBe(int part, int v) {
            return v >= leastOf(part) && v <= mostOf(part);
        }

        int partOf(int w, int part) {
            return hasWalker(w) && part >= 0 && part < PARTS ? parts[w * PARTS + part] : NONE;
        }

        void setPart(int w, int part, int v) {
            if (hasWalker(w) && part >= 0 && part < PARTS) {
                parts[w * PARTS + part] = v;
            }
        }

        void setReach(int v) {
            reach = v;
        }

        int kindOf(int t) {
            return hasTread(t) ? kinds[t] : TREAD;
        }

        void setKind(int t, int kind) {
            if (hasTread(t)) {
                kinds[t] = kind;
            }
        }

        int noteOf(int t) {
            return hasTread(t) ? notes[t] : 0;
        }

        void setNote(int t, int note) {
            if (hasTread(t)) {
                notes[t] = note;
            }
        }

        int wornOf(int t) {
            return hasTread(t) ? wears[t] : 0;
        }

        void setWorn(int t, int times) {
            if (hasTread(t)) {
                wears[t] = times;
            }
        }

        void planeTo(int t, int note) {
            setNote(t, note);
            setWorn(t, 0);
        }

        int wornTogether() {
            int all = 0;
            for (int t = 0; t < treads; t++) {
                all += wornOf(t);
            }
            return all;
        }

        int tonesTogether() {
            int all = 0;
            for (int t = 0; t < treads; t++) {
                all += toneOf(t);
            }
            return all;
        }

        int toneOf(int t) {
            return hasTread(t) ? Math.max(0, notes[t] - wears[t] / 10) : 0;
        }

        /** How one of a KIND and a TONE sounds on this DAY: 0 to 9, or REST. */
        int soundAs(int kind, int tone, int step) {
            switch (kind) {
                case PLAIN:
                    return tone;
                case SOFT:
                    return isWet() ? Math.max(0, tone - 1) : tone;
                case LOOSE:
                    return Math.min(MOST_NOTE, tone + step - 1);
                case FELTED:
                    return step == MOST_STEP ? tone / 2 : REST;
                default:
                    return REST;
            }
        }

        /** The k-th TREAD (0 on) of a WALK; NONE behind its end. */
        int treadOf(int w, int k) {
            // No WALK is longer than the stairs: a great k must not be multiplied.
            if (!hasWalker(w) || k < 0 || k >= TREADS) {
                return NONE;
            }
            int from = parts[w * PARTS + FROM];
            int to = parts[w * PARTS + TO];
            int step = parts[w * PARTS + STEP];
            int distance = Math.abs(to - from);
            if (k > 0 && (k - 1) * step >= distance) {
                return NONE;
            }
            int gone = Math.min(k * step, distance);
            return to > from ? from + gone : from - gone;
        }

        /** The k-th (0 on) of a TUNE; NONE behind its end. */
        int soundOf(int w, int k) {
            int t = treadOf(w, k);
            return hasTread(t) ? soundAs(kinds[t], toneOf(t), partOf(w, STEP)) : NONE;
        }

        int longOf(int w) {
            for (int k = 0; k < TREADS; k++) {
                if (treadOf(w, k) == NONE) {
                    return k;
                }
            }
            return TREADS;
        }

        int placeIn(int w, int minute) {
            return hasWalker(w) ? treadOf(w, minute - partOf(w, START)) : NONE;
        }

        boolean isNear(int t, int door) {
            return hasTread(t) && hasTread(door) && Math.abs(t - door) <= reach;
        }

        int heardAt(int door, int minute) {
            return soundsIn(minute, door - reach, door + reach);
        }

        int soundsIn(int minute, int lowest, int highest) {
            int notesHeard = 0;
            for (int w = 0; w < walkers; w++) {
                int t = treadOf(w, minute - partOf(w, START));
                if (!hasTread(t) || t < lowest || t > highest) {
                    continue;
                }
                int sound = soundAs(kinds[t], toneOf(t), partOf(w, STEP));
                if (sound != REST) {
                    notesHeard |= 1 << sound;
                }
            }
            return notesHeard;
        }

        /** The whole TUNE as one number: like TUNES, and no others, have like numbers. */
        long tuneNumber(int w) {
            long number = 1;
            int step = partOf(w, STEP);
            for (int k = 0; k < TREADS; k++) {
                int t = treadOf(w, k);
                if (!hasTread(t)) {
                    break;
                }
                number = number * 16 + soundAs(kinds[t], toneOf(t), step);
            }
            return number;
        }

        int walkersOn(int tread) {
            int on = 0;
            for (int w = 0; w < walkers; w++) {
                for (int k = 0; k < TREADS; k++) {
                    if (treadOf(w, k) == tread) {
                        on |= 1 << w;
                    }
                }
            }
            return on;
        }

        void passDay() {
            for (int w = 0; w < walkers; w++) {
                int length = longOf(w);
                for (int k = 0; k < length; k++) {
                    int t = treadOf(w, k);
                    setWorn(t, Math.min(MOST_WORN, wornOf(t) + 1));
                }
            }
            for (int w = 0; w < walkers; w++) {
                int from = partOf(w, FROM);
                setPart(w, FROM, partOf(w, TO));
                setPart(w, TO, from);
            }
            day++;
        }
    }

    /** The latest ACTS in a ring, each kept as the TOWN that was ahead of it. */
    private static final class Past {
        private final Town[] towns;
        private int next;
        private int kept;

        Past() {
            towns = new Town[ACTS];
            for (int i = 0; i < ACTS; i++) {
                towns[i] = new Town();
            }
        }

        void forget() {
            kept = 0;
        }

        int keptCount() {
            return kept;
        }

        void keep(Town town) {
            Town place = townAt(next);
            if (place == null) {
                return;
            }
            place.take(town);
            next = next + 1 < ACTS ? next + 1 : 0;
            kept = Math.min(ACTS, kept + 1);
        }

        int takeBack(Town town) {
            if (town == null || kept < 1) {
                return STATE;
            }
            next = next > 0 ? next - 1 : ACTS - 1;
            town.take(townAt(next));
            kept--;
            return kept;
        }

        private Town townAt(int i) {
            return i >= 0 && i < ACTS ? towns[i] : null;
        }
    }

    /** What is foretold, on a copy of the TOWN that may be changed freely. */
    private static final class Seer {
        private static final long FACTOR = 16807, PRIME = 2147483647;
        private static final int MOST_DIVISIONS = 100;

        private final Town town;
        private final int[] heardItems;
        private final int[] doorsOf;
        private final long[] tuneNumbers;
        private int heardCount;

        Seer() {
            town = new Town();
            heardItems = new int[MOST_TOLD];
            doorsOf = new int[WALKERS];
            tuneNumbers = new long[WALKERS];
        }

        void lookAt(Town now) {
            town.take(now);
            heardCount = 0;
        }

        void hearFrom(int item) {
            if (heardCount >= 0 && heardCount < MOST_TOLD) {
                heardItems[heardCount] = item;
                heardCount++;
            }
        }

        int treadIn(int tread, int n, int what) {
            for (int k = 0; k < n; k++) {
                town.passDay();
            }
            return what == 0 ? town.toneOf(tread) : town.wornOf(tread);
        }

        int meetingOf(int one, int other) {
            int oneWas = NONE;
            int otherWas = NONE;
            for (int minute = 0; minute < MINUTES; minute++) {
                int oneIs = town.placeIn(one, minute);
                int otherIs = town.placeIn(other, minute);
                boolean bothAre = oneIs != NONE && otherIs != NONE;
                if (bothAre && (oneIs == otherIs || oneIs == otherWas && otherIs == oneWas)) {
                    return minute;
                }
                oneWas = oneIs;
                otherWas = otherIs;
            }
            return NONE;
        }

        int fullestMinute(int what) {
            int fullest = 0;
            int most = 0;
            for (int minute = 0; minute < MINUTES; minute++) {
                int notes = Integer.bitCount(town.soundsIn(minute, 0, TREADS));
                if (notes > most) {
                    fullest = minute;
                    most = notes;
                }
            }
            return what == 0 ? fullest : most;
        }

        int twinCount() {
            int walkers = numberTunes();
            int pairs = 0;
            for (int a = 0; a < walkers; a++) {
                for (int b = a + 1; b < walkers; b++) {
                    if (tuneNumbers[a] == tuneNumbers[b]) {
                        pairs++;
                    }
                }
            }
            return pairs;
        }

        int firstTwins() {
            int walkers = numberTunes();
            for (int a = 0; a < walkers; a++) {
                for (int b = a + 1; b < walkers; b++) {
                    if (tuneNumbers[a] == tuneNumbers[b]) {
                        return 10 * a + b;
                    }
                }
            }
            return NONE;
        }

        /** How many WALKERS there are, the TUNE of each put down as a number. */
        private int numberTunes() {
            int walkers = Math.min(town.walkerCount(), WALKERS);
            for (int w = 0; w < walkers; w++) {
                tuneNumbers[w] = town.tuneNumber(w);
            }
            return walkers;
        }

        int fewestFelts(int walker, int door, int what) {
            int best = NONE;
            int sets = 1 << town.treadCount();
            for (int felts = 0; felts < sets; felts++) {
                if (isSmaller(felts, best) && isUnheard(walker, door, felts)) {
                    best = felts;
                }
            }
            return what == 0 ? sizeOf(best) : best;
        }

        int fewestDoors(int what) {
            int walkers = Math.min(town.walkerCount(), WALKERS);
            for (int w = 0; w < walkers; w++) {
                doorsOf[w] = doorsHearing(w);
            }
            int best = NONE;
            int sets = 1 << town.treadCount();
            for (int doors = 0; doors < sets; doors++) {
                if (isSmaller(doors, best) && hearAll(doors, walkers)) {
                    best = doors;
                }
            }
            return what == 0 ? sizeOf(best) : best;
        }

        private boolean hearAll(int doors, int walkers) {
            for (int w = 0; w < walkers && w < WALKERS; w++) {
                if ((doorsOf[w] & doors) == 0) {
                    return false;
                }
            }
            return true;
        }

        private int doorsHearing(int walker) {
            int doors = 0;
            for (int door = 0; door < town.treadCount(); door++) {
                if (!isUnheard(walker, door, 0)) {
                    doors |= 1 << door;
                }
            }
            return doors;
        }

        /** Whether nothing of a WALK is HEARD at a door, with some TREADS felted. */
        private boolean isUnheard(int walker, int door, int felts) {
            int step = town.partOf(walker, STEP);
            for (int k = 0; k < TREADS; k++) {
                int t = town.treadOf(walker, k);
                if (!town.isNear(t, door)) {
                    continue;
                }
                int kind = (felts >> t & 1) == 1 ? FELTED : town.kindOf(t);
                if (town.soundAs(kind, town.toneOf(t), step) != REST) {
                    return false;
                }
            }
            return true;
        }

        // Sets are gone through from the least on: of several as small the first one stays.
        private static boolean isSmaller(int set, int best) {
            return best == NONE || Integer.bitCount(set) < Integer.bitCount(best);
        }

        private static int sizeOf(int set) {
            return set == NONE ? NONE : Integer.bitCount(set);
        }

        int bestPlaning(int what) {
            int best = NONE;
            int fewest = 0;
            for (int t = 0; t < town.treadCount(); t++) {
                int note = town.noteOf(t);
                int worn = town.wornOf(t);
                for (int v = 0; v <= MOST_NOTE; v++) {
                    town.planeTo(t, v);
                    int pairs = twinCount();
                    if (best == NONE || pairs < fewest) {
                        best = 10 * t + v;
                        fewest = pairs;
                    }
                }
                town.setNote(t, note);
                town.setWorn(t, worn);
            }
            return what == 0 ? best : fewest;
        }

        int risesOf(int walker, int door, int n, int what) {
            int all = 0;
            int first = NONE;
            for (int step = 1; step <= MOST_STEP; step++) {
                for (int start = 0; start <= MOST_START; start++) {
                    town.setPart(walker, STEP, step);
                    town.setPart(walker, START, start);
                    if (!isRise(walker, door, n)) {
                        continue;
                    }
                    all++;
                    if (first == NONE) {
                        first = 100 * step + start;
                    }
                }
            }
            return what == 0 ? all : first;
        }

        private boolean isRise(int walker, int door, int n) {
            int start = town.partOf(walker, START);
            int length = town.longOf(walker);
            for (int k = 0; k < length; k++) {
                if (Integer.bitCount(town.heardAt(door, start + k)) >= n) {
                    return true;
                }
            }
            return false;
        }

        int kindsBy(int tread, int door, int minute) {
            int fitting = 0;
            for (int kind = PLAIN; kind <= FELTED; kind++) {
                town.setKind(tread, kind);
                if (isHeardSo(door, minute)) {
                    fitting |= 1 << kind;
                }
            }
            return fitting;
        }

        int notesBy(int tread, int door, int minute) {
            int fitting = 0;
            for (int note = 0; note <= MOST_NOTE; note++) {
                town.setNote(tread, note);
                if (isHeardSo(door, minute)) {
                    fitting |= 1 << note;
                }
            }
            return fitting;
        }

        int partsBy(int walker, int part, int door, int minute) {
            int fitting = 0;
            for (int v = town.leastOf(part); v <= town.mostOf(part); v++) {
                town.setPart(walker, part, v);
                if (isHeardSo(door, minute)) {
                    fitting |= 1 << v;
                }
            }
            return fitting;
        }

        private boolean isHeardSo(int door, int minute) {
            for (int k = 0; k < heardCount && k < MOST_TOLD; k++) {
                if (heardItems[k] != town.heardAt(door, minute + k)) {
                    return false;
                }
            }
            return true;
        }

        long likelihood(int walker, int door, int p, int what) {
            long cases = 1;
            long silent = 1;
            for (int k = 0; k < TREADS; k++) {
                int t = town.treadOf(walker, k);
                if (!town.isNear(t, door)) {
                    continue;
                }
                int kind = town.kindOf(t);
                if (kind != ROTTEN && kind != FELTED) {
                    cases *= 10;
                    silent *= p;
                } else if (town.soundOf(walker, k) != REST) {
                    silent = 0;
                }
            }
            long loud = cases - silent;
            long common = commonDivisor(cases, loud);
            if (common < 1) {
                return NONE;
            }
            return what == 0 ? loud / common : cases / common;
        }

        private static long commonDivisor(long a, long b) {
            long greater = a;
            long lesser = b;
            for (int k = 0; k < MOST_DIVISIONS && lesser != 0; k++) {
                long rest = greater % lesser;
                greater = lesser;
                lesser = rest;
            }
            return greater;
        }

        int weeksBy(int n, int seed, int what) {
            int treads = town.treadCount();
            int walkers = town.walkerCount();
            if (treads < 1 || walkers < 1) {
                return NONE;
            }
            long x = seed;
            int sounding = 0;
            for (int k = 0; k < n; k++) {
                x = x * FACTOR % PRIME;
                if (x % 3 == 0) {
                    town.planeTo((int) (x % treads), (int) (x % 10));
                }
                if (x % 4 == 0) {
                    town.setPart((int) (x % walkers), START, (int) (x % 21));
                }
                sounding += soundingSteps();
                town.passDay();
            }
            return what == 0 ? sounding : town.tonesTogether();
        }

        private int soundingSteps() {
            int steps = 0;
            for (int w = 0; w < town.walkerCount(); w++) {
                int length = town.longOf(w);
                for (int k = 0; k < length; k++) {
                    if (town.soundOf(w, k) != REST) {
                        steps++;
                    }
                }
            }
            return steps;
        }
    }

    /** KINDS and ASKS: the BODIES, and THE TRACE that they leave. */
    private static final class Asks {
        private static final int SIZE_ASK = 0, NO_BODY = 0;
        private static final int MOST_TRACE = 16, DEEPEST = 8, KINDS = 6;
        // By KIND: the KIND that it is, too, and the BODIES told for it.
        private static final int[] ABOVE = {-1, TREAD, PLAIN, PLAIN, TREAD, ROTTEN};
        private static final int[] SIZE_BODIES = {10, 11, 12, NO_BODY, 13, 14};
        private static final int[] MARK_BODIES = {20, 21, 24, 22, 23, NO_BODY};

        private final int[] bodies;
        private int begun;
        private int number;
        private int kind;
        private int note;
        private int worn;

        Asks() {
            bodies = new int[MOST_TRACE];
        }

        boolean isA(int own, int wanted) {
            int k = own;
            for (int level = 0; level < KINDS && k >= 0 && k < KINDS; level++) {
                if (k == wanted) {
                    return true;
                }
                k = ABOVE[k];
            }
            return false;
        }

        int answerOf(Town town, int one, int what) {
            if (town == null) {
                return BAD;
            }
            number = one;
            kind = town.kindOf(one);
            note = town.noteOf(one);
            worn = town.wornOf(one);
            begun = 0;
            return what == SIZE_ASK ? sizeAsked(0) : markAsked(0);
        }

        int traceAt(int i) {
            return i >= 0 && i < begun && i < MOST_TRACE ? bodies[i] : NONE;
        }

        private int sizeAsked(int depth) {
            return body(nearest(SIZE_BODIES), depth);
        }

        private int markAsked(int depth) {
            return body(nearest(MARK_BODIES), depth);
        }

        private int nearest(int[] told) {
            int k = kind;
            for (int level = 0; level < KINDS && told != null; level++) {
                if (k < 0 || k >= KINDS || k >= told.length) {
                    return NO_BODY;
                }
                if (told[k] != NO_BODY) {
                    return told[k];
                }
                k = ABOVE[k];
            }
            return NO_BODY;
        }

        /** What a BODY gives; five stand open at once at most, the depth only guards that. */
        private int body(int body, int depth) {
            if (depth > DEEPEST) {
                return 0;
            }
            begin(body);
            int deeper = depth + 1;
            switch (body) {
                case 10:
                    return note;
                case 11:
                    return body(10, deeper) + markAsked(deeper);
                case 12:
                    return -body(11, deeper);
                case 13:
                    return body(10, deeper) - 100;
                case 14:
                    return 2 * body(13, deeper);
                case 20:
                    return number;
                case 21:
                    return body(20, deeper) + worn;
                case 22:
                    return body(21, deeper) - 1000;
                case 23:
                    return body(20, deeper) - sizeAsked(deeper);
                case 24:
                    return 2 * body(21, deeper);
                default:
                    return 0;
            }
        }

        private void begin(int body) {
            if (begun >= 0 && begun < MOST_TRACE) {
                bodies[begun] = body;
                begun++;
            }
        }
    }
}
