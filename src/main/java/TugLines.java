/** Tugs that bring a thing in: ../shared/DOC.md says what every call answers. */
public final class TugLines {
    public static final int NONE = -1000000, BAD = -1000001, STATE = -1000002, FULL = -1000003;

    private static final int FOUND = -1000010, FAULTY = -1000100;
    private static final int NULL_FOUND = 1, PLACE_FOUND = 2, KIND_FOUND = 3, SIZE_FOUND = 4, STORE_FOUND = 5;

    private static final int MOST_ROWS = 8, MOST_ITEMS = 40, MOST_BYTES = 90;
    private static final int MOST_TUGS = 6, MOST_PIERS = 4;
    private static final int MOST_IMAGES = 2, MOST_ACTS = 24, MOST_TRACED = 16;
    private static final int LAST_HOUR = 9999, FARTHEST = 60, LONGEST = 30, MOST_CHANCED = 8;

    private static final int PADDLER = 1, LAME = 2, STOUT = 3, LAUNCH = 4, BOY = 5, LAST_KIND = 5;
    /** The KIND that each KIND is, too; a TUG (0) is no other. */
    private static final int[] ALSO = {-1, 0, 1, 1, 0, 4};

    /** The greatest KIND, PULL, ROPE, MASS and MASS that fits() tries, by what it is asked. */
    private static final int[] MOST_SUPPOSED = {5, 20, 20, 60, 60};

    private final Row[] rows;
    private final Tape tape;
    private final Estuary now;
    private final Acts acts;
    private final Estuary[] images;
    /** Foretelling runs in these, one for each HOUR that a CHANCE branches by. */
    private final Estuary[] ahead;
    private final Asker asker;
    private int finding;

    public TugLines() {
        rows = new Row[MOST_ROWS];
        for (int r = 0; r < MOST_ROWS; r++) {
            rows[r] = new Row();
        }
        tape = new Tape();
        now = new Estuary();
        acts = new Acts();
        images = new Estuary[MOST_IMAGES];
        for (int k = 0; k < MOST_IMAGES; k++) {
            images[k] = new Estuary();
        }
        ahead = new Estuary[MOST_CHANCED + 1];
        for (int d = 0; d <= MOST_CHANCED; d++) {
            ahead[d] = new Estuary();
        }
        asker = new Asker();
    }

    // ---- rows

    public int row(int row, int lane, int n) {
        if (noRow(row) || lane < 0 || lane > Row.INTS || n > MOST_ITEMS) {
            return BAD;
        }
        if (n < 0) {
            return found(SIZE_FOUND);
        }
        rows[row].begin(lane, n);
        return well(n);
    }

    public int set(int row, int i, int v) {
        if (noRow(row)) {
            return BAD;
        }
        Row to = rows[row];
        if (to.missing()) {
            return found(NULL_FOUND);
        }
        if (!to.hasRun(i, 1)) {
            return found(PLACE_FOUND);
        }
        to.items[i] = to.narrowed(v);
        return well(to.items[i]);
    }

    public int copy(int a, int i, int b, int j, int n) {
        if (noRow(a) || noRow(b)) {
            return BAD;
        }
        Row from = rows[a];
        Row to = rows[b];
        if (from.missing() || to.missing()) {
            return found(NULL_FOUND);
        }
        if (from.lane != to.lane) {
            return found(STORE_FOUND);
        }
        if (!from.hasRun(i, n) || !to.hasRun(j, n)) {
            return found(PLACE_FOUND);
        }
        System.arraycopy(from.items, i, to.items, j, n);
        return well(n);
    }

    public int drop(int row) {
        if (noRow(row)) {
            return BAD;
        }
        if (rows[row].missing()) {
            return found(NULL_FOUND);
        }
        return well(rows[row].end());
    }

    // ---- estuaries, acts

    public int feed(int letter) {
        if (letter < 0 || letter > 255) {
            return BAD;
        }
        if (tape.length >= MOST_BYTES) {
            return FULL;
        }
        return tape.append(letter);
    }

    public int estuary() {
        // What is read stays apart until it is known to be without a FAULT.
        Estuary told = ahead[0];
        if (!tape.readInto(told)) {
            return FAULTY - tape.at;
        }
        now.take(told);
        acts.forget();
        return now.tugs;
    }

    public int fault() {
        return tape.faultNumber;
    }

    public int hours(int n) {
        if (noEstuary()) {
            return STATE;
        }
        if (n < 1 || n > MOST_ACTS) {
            return BAD;
        }
        if (now.hour + n > LAST_HOUR) {
            return FULL;
        }
        for (int h = 0; h < n; h++) {
            acts.keep(now);
            now.passHour(false);
        }
        return now.out;
    }

    public int mend(int tug) {
        if (noTug(tug)) {
            return BAD;
        }
        if (now.holds(tug) && now.frayed[tug] == 0) {
            return STATE;
        }
        acts.keep(now);
        now.mendRope(tug);
        return now.held;
    }

    public int loose(int tug) {
        if (noTug(tug)) {
            return BAD;
        }
        if (!now.holds(tug)) {
            return STATE;
        }
        acts.keep(now);
        now.letGo(tug);
        return now.held;
    }

    public int pull(int tug, int v) {
        if (noTug(tug) || v < 1 || v > 20) {
            return BAD;
        }
        int was = now.pulls[tug];
        acts.keep(now);
        now.pulls[tug] = v;
        return was;
    }

    public int clear(int pier) {
        if (noPier(pier)) {
            return BAD;
        }
        int was = now.stands[pier];
        if (was == 0) {
            return STATE;
        }
        acts.keep(now);
        now.stands[pier] = 0;
        return was;
    }

    public int undo() {
        if (acts.kept == 0) {
            return STATE;
        }
        return acts.takeBack(now);
    }

    public int tug(int tug, int what) {
        if (noTug(tug)) {
            return BAD;
        }
        switch (what) {
            case 0: return now.pulls[tug];
            case 1: return now.ropes[tug];
            case 2: return now.frayed[tug];
            case 3: return now.holds(tug) ? 1 : 0;
            case 4: return now.drawOf(tug);
            default: return BAD;
        }
    }

    public int pier(int pier, int what) {
        if (noPier(pier)) {
            return BAD;
        }
        switch (what) {
            case 0: return now.places[pier];
            case 1: return now.stands[pier];
            default: return BAD;
        }
    }

    // ---- foretold

    public int later(int d, int what) {
        if (noEstuary()) {
            return STATE;
        }
        if (d < 0 || d > FARTHEST || what < 0 || what > 3) {
            return BAD;
        }
        Estuary then = fromNow();
        for (int h = 0; h < d; h++) {
            then.passHour(false);
        }
        switch (what) {
            case 0: return then.out;
            case 1: return then.speedBy(then.force());
            case 2: return then.held;
            default: return then.standing();
        }
    }

    public int arrives() {
        if (noEstuary()) {
            return STATE;
        }
        return hoursUntilIn(fromNow(), FARTHEST);
    }

    public int parts(int tug) {
        if (noTug(tug)) {
            return BAD;
        }
        Estuary then = fromNow();
        for (int h = 0; h <= FARTHEST; h++) {
            if (!then.holds(tug)) {
                return h;
            }
            then.passHour(false);
        }
        return NONE;
    }

    public int crew(int n, int what) {
        if (noEstuary()) {
            return STATE;
        }
        if (n < 1 || n > LONGEST || noHalf(what)) {
            return BAD;
        }
        int best = NONE;
        for (int set = 0; set < 1 << MOST_TUGS; set++) {
            if ((set & ~now.held) == 0 && fewer(set, best) && inByCrew(set, n)) {
                best = set;
            }
        }
        return sizeOrSet(best, what);
    }

    public int cleared(int n, int what) {
        if (noEstuary()) {
            return STATE;
        }
        if (n < 1 || n > LONGEST || noHalf(what)) {
            return BAD;
        }
        int standing = now.standing();
        int best = NONE;
        for (int set = 0; set < 1 << MOST_PIERS; set++) {
            if ((set & ~standing) == 0 && fewer(set, best) && inByCleared(set, n)) {
                best = set;
            }
        }
        return sizeOrSet(best, what);
    }

    public int least(int tug, int n) {
        if (noTug(tug) || n < 1 || n > LONGEST) {
            return BAD;
        }
        for (int v = 1; v <= 20; v++) {
            Estuary then = fromNow();
            then.pulls[tug] = v;
            if (hoursUntilIn(then, n) != NONE) {
                return v;
            }
        }
        return NONE;
    }

    public int share(int tug, int n) {
        if (noTug(tug) || n < 0 || n > 999) {
            return BAD;
        }
        int all = now.pullOfHolders();
        if (!now.holds(tug) || all < 1) {
            return 0;
        }
        int over = n;
        int holdersBefore = 0;
        for (int t = 0; t < now.tugs; t++) {
            if (now.holds(t)) {
                over -= n * now.pulls[t] / all;
                holdersBefore += t < tug ? 1 : 0;
            }
        }
        return n * now.pulls[tug] / all + (holdersBefore < over ? 1 : 0);
    }

    public int fits(int tug, int row, int i, int n, int what) {
        if (noTug(tug) || noRow(row) || n < 1 || n > 12 || what < 0 || what >= MOST_SUPPOSED.length) {
            return BAD;
        }
        Row told = rows[row];
        if (told.missing()) {
            return found(NULL_FOUND);
        }
        if (!told.hasRun(i, n)) {
            return found(PLACE_FOUND);
        }
        int bits = 0;
        int fitting = 0;
        int first = NONE;
        for (int v = 1; v <= MOST_SUPPOSED[what]; v++) {
            if (isSoWith(tug, what, v, told, i, n)) {
                bits |= v < 31 ? 1 << v : 0;
                fitting++;
                first = first == NONE ? v : first;
            }
        }
        return well(what == 3 ? fitting : what == 4 ? first : bits);
    }

    public int chance(int n, int c, int what) {
        if (noEstuary()) {
            return STATE;
        }
        if (n < 0 || n > MOST_CHANCED || c < 0 || c > 10 || noHalf(what)) {
            return BAD;
        }
        fromNow();
        int above = waysIn(0, n, c);
        int below = tenToThe(n);
        int common = commonDivisor(above, below);
        if (common < 1) {
            return NONE;
        }
        return (what == 0 ? above : below) / common;
    }

    public int drawn(int n, int seed, int what) {
        if (noEstuary()) {
            return STATE;
        }
        if (n < 0 || n > FARTHEST || seed < 1 || seed > 999999 || noHalf(what)) {
            return BAD;
        }
        Estuary then = fromNow();
        long x = seed;
        int cameIn = 0;
        for (int h = 0; h < n; h++) {
            x = x * 16807L % 2147483647L;
            then.befall(x);
            then.passHour(false);
            cameIn += then.out == 0 ? 1 : 0;
        }
        return what == 0 ? cameIn : Integer.bitCount(then.held);
    }

    public int image(int k) {
        if (noImage(k)) {
            return BAD;
        }
        if (noEstuary()) {
            return STATE;
        }
        images[k].take(now);
        return 1;
    }

    public int restore(int k) {
        if (noImage(k)) {
            return BAD;
        }
        if (images[k].tugs == 0) {
            return STATE;
        }
        now.take(images[k]);
        acts.forget();
        return 1;
    }

    // ---- asked

    public int kind(int tug) {
        return noTug(tug) ? BAD : now.kinds[tug];
    }

    public int as(int tug, int kind) {
        if (noTug(tug) || kind < 0 || kind > LAST_KIND) {
            return BAD;
        }
        return isA(now.kinds[tug], kind) ? well(tug) : found(KIND_FOUND);
    }

    public int ask(int tug, int what) {
        if (noTug(tug) || noHalf(what)) {
            return BAD;
        }
        return asker.answer(now, tug, what);
    }

    public int trace(int i) {
        return i < 0 || i >= asker.length ? NONE : asker.bodies[i];
    }

    public int count(int what) {
        switch (what) {
            case 0: return rowsThere();
            case 1: return now.tugs;
            case 2: return now.piers;
            case 3: return now.hour;
            case 4: return now.mass;
            case 5: return now.out;
            case 6: return now.held;
            case 7: return acts.kept;
            case 8: return tape.length;
            default: return BAD;
        }
    }

    public int status() {
        return finding;
    }

    // ---- what the calls lean on

    private int found(int number) {
        finding = number;
        return FOUND - number;
    }

    private int well(int answer) {
        finding = 0;
        return answer;
    }

    private static boolean noRow(int row) {
        return row < 0 || row >= MOST_ROWS;
    }

    private static boolean noImage(int k) {
        return k < 0 || k >= MOST_IMAGES;
    }

    /** Of what is told in two halves: neither the one (0) nor the other (1). */
    private static boolean noHalf(int what) {
        return what < 0 || what > 1;
    }

    private boolean noEstuary() {
        // An ESTUARY that was read has a TUG at least.
        return now.tugs == 0;
    }

    private boolean noTug(int tug) {
        return tug < 0 || tug >= now.tugs;
    }

    private boolean noPier(int pier) {
        return pier < 0 || pier >= now.piers;
    }

    private int rowsThere() {
        int there = 0;
        for (int r = 0; r < MOST_ROWS; r++) {
            there += rows[r].missing() ? 0 : 1;
        }
        return there;
    }

    private Estuary fromNow() {
        ahead[0].take(now);
        return ahead[0];
    }

    /** Behind how many HOURS, n at most, the THING is IN first; NONE. */
    private static int hoursUntilIn(Estuary then, int n) {
        for (int h = 0; h < n; h++) {
            if (then.out == 0) {
                return h;
            }
            then.passHour(false);
        }
        return then.out == 0 ? n : NONE;
    }

    private boolean inByCrew(int set, int n) {
        Estuary then = fromNow();
        for (int t = 0; t < then.tugs; t++) {
            if ((set >> t & 1) == 0) {
                then.letGo(t);
            }
        }
        return hoursUntilIn(then, n) != NONE;
    }

    private boolean inByCleared(int set, int n) {
        Estuary then = fromNow();
        for (int p = 0; p < then.piers; p++) {
            if ((set >> p & 1) == 1) {
                then.stands[p] = 0;
            }
        }
        return hoursUntilIn(then, n) != NONE;
    }

    private static boolean fewer(int set, int best) {
        return best == NONE || Integer.bitCount(set) < Integer.bitCount(best);
    }

    private static int sizeOrSet(int best, int what) {
        return best == NONE || what == 1 ? best : Integer.bitCount(best);
    }

    private boolean isSoWith(int tug, int what, int v, Row told, int i, int n) {
        Estuary then = fromNow();
        then.suppose(tug, what, v);
        for (int h = 0; h < n; h++) {
            then.passHour(false);
            if (then.out != told.items[i + h]) {
                return false;
            }
        }
        return true;
    }

    /** Of the ten-to-the-rest ways that n HOURS go on from this depth: in how many the THING is IN. */
    private int waysIn(int depth, int n, int c) {
        if (ahead[depth].out == 0) {
            return tenToThe(n - depth);
        }
        if (depth >= n) {
            return 0;
        }
        int foggy = c == 0 ? 0 : c * waysInBehind(depth, n, c, true);
        int fair = c == 10 ? 0 : (10 - c) * waysInBehind(depth, n, c, false);
        return foggy + fair;
    }

    private int waysInBehind(int depth, int n, int c, boolean fog) {
        if (depth + 1 >= ahead.length) {
            return 0;
        }
        Estuary next = ahead[depth + 1];
        next.take(ahead[depth]);
        next.passHour(fog);
        return waysIn(depth + 1, n, c);
    }

    private static int tenToThe(int n) {
        int power = 1;
        for (int i = 0; i < n; i++) {
            power *= 10;
        }
        return power;
    }

    private static int commonDivisor(int a, int b) {
        int x = a;
        int y = b;
        // Each two steps halve what is left, so an int is through long before the bound.
        for (int step = 0; step < 100 && y != 0; step++) {
            int rest = x % y;
            x = y;
            y = rest;
        }
        return x;
    }

    private static boolean isA(int kind, int asked) {
        int k = kind;
        for (int up = 0; up <= LAST_KIND && k >= 0 && k <= LAST_KIND; up++) {
            if (k == asked) {
                return true;
            }
            k = ALSO[k];
        }
        return false;
    }

    /** A ROW; it is missing while it has no LANE. */
    private static final class Row {
        static final int NO_LANE = -1, BYTES = 0, SHORTS = 1, INTS = 2;

        final int[] items;
        int lane;
        int size;

        Row() {
            items = new int[MOST_ITEMS];
            lane = NO_LANE;
        }

        boolean missing() {
            return lane == NO_LANE;
        }

        void begin(int newLane, int n) {
            lane = newLane;
            size = n;
            for (int i = 0; i < n && i < MOST_ITEMS; i++) {
                items[i] = 0;
            }
        }

        int end() {
            int had = size;
            lane = NO_LANE;
            size = 0;
            return had;
        }

        /** Told so that no sum can pass beyond the greatest int. */
        boolean hasRun(int i, int n) {
            return i >= 0 && n >= 0 && n <= size && i <= size - n;
        }

        int narrowed(int v) {
            return lane == BYTES ? (byte) v : lane == SHORTS ? (short) v : v;
        }
    }

    /** THE TAPE, and how it is read: each step answers whether it was without a FAULT. */
    private static final class Tape {
        static final int MISPLACED = 1, NOT_AS_TOLD = 2, NO_ROOM = 3;

        final int[] bytes;
        int length;
        /** Where the reading is; with a FAULT, its place. */
        int at;
        int faultNumber;
        /** The NUMBER that was read last. */
        int number;

        Tape() {
            bytes = new int[MOST_BYTES];
        }

        int append(int letter) {
            if (length < MOST_BYTES) {
                bytes[length] = letter;
                length++;
            }
            return length;
        }

        boolean readInto(Estuary told) {
            at = 0;
            told.empty();
            boolean fine = readLaw(told) && readTugs(told) && readPiers(told) && readEnd();
            length = 0;
            return fine;
        }

        private boolean readLaw(Estuary told) {
            if (!readSign('t') || !readNumber(1, 60)) {
                return false;
            }
            told.mass = number;
            if (!readSign(',') || !readNumber(1, 99)) {
                return false;
            }
            told.out = number;
            return readSign(';');
        }

        private boolean readTugs(Estuary told) {
            if (sortHere() == 0) {
                return faulty(MISPLACED);
            }
            for (int t = 0; t <= MOST_TUGS && sortHere() != 0; t++) {
                if (t == MOST_TUGS) {
                    return faulty(NO_ROOM);
                }
                if (!readTug(told, t)) {
                    return false;
                }
            }
            return true;
        }

        private boolean readTug(Estuary told, int t) {
            told.kinds[t] = sortHere();
            at++;
            if (!readNumber(1, 20)) {
                return false;
            }
            told.pulls[t] = number;
            if (!readSign(',') || !readNumber(1, 20)) {
                return false;
            }
            told.ropes[t] = number;
            told.held |= 1 << t;
            told.tugs = t + 1;
            return readSign(';');
        }

        private boolean readPiers(Estuary told) {
            for (int p = 0; p <= MOST_PIERS && here() == 'q'; p++) {
                if (p == MOST_PIERS) {
                    return faulty(NO_ROOM);
                }
                if (!readPier(told, p)) {
                    return false;
                }
            }
            return true;
        }

        private boolean readPier(Estuary told, int p) {
            at++;
            if (!readNumber(0, 98)) {
                return false;
            }
            told.places[p] = number;
            if (!readSign(',') || !readNumber(1, 20)) {
                return false;
            }
            told.stands[p] = number;
            told.piers = p + 1;
            return readSign(';');
        }

        private boolean readEnd() {
            return at == length || faulty(MISPLACED);
        }

        private boolean readSign(int sign) {
            if (here() != sign) {
                return faulty(MISPLACED);
            }
            at++;
            return true;
        }

        private boolean readNumber(int low, int high) {
            int start = at;
            int figures = 0;
            int value = 0;
            // A third figure is looked for, since a run of three is no TOKEN.
            while (figures < 3 && isFigure(byteAt(start + figures))) {
                value = value * 10 + byteAt(start + figures) - '0';
                figures++;
            }
            if (figures == 0 || figures == 3) {
                return faulty(MISPLACED);
            }
            if (value < low || value > high) {
                return faulty(NOT_AS_TOLD);
            }
            number = value;
            at = start + figures;
            return true;
        }

        private static boolean isFigure(int letter) {
            return letter >= '0' && letter <= '9';
        }

        /** The KIND that the letter here tells; 0, if it tells none. */
        private int sortHere() {
            switch (here()) {
                case 'p': return PADDLER;
                case 'l': return LAME;
                case 's': return STOUT;
                case 'a': return LAUNCH;
                case 'b': return BOY;
                default: return 0;
            }
        }

        private int here() {
            return byteAt(at);
        }

        private int byteAt(int place) {
            return place >= 0 && place < length ? bytes[place] : -1;
        }

        private boolean faulty(int faultIs) {
            faultNumber = faultIs;
            return false;
        }
    }

    /** The THING, the TUGS and the PIERS at an HOUR; without TUGS there is no ESTUARY. */
    private static final class Estuary {
        static final int FASTEST = 9, BOY_PARTS = 5, PARTS_AT = 3, STOUT_PARTS_AT = 6;

        int tugs;
        int piers;
        int mass;
        int out;
        int hour;
        /** TUGS (bits) that HOLD. */
        int held;
        final int[] kinds;
        final int[] pulls;
        final int[] ropes;
        final int[] frayed;
        final int[] places;
        final int[] stands;

        Estuary() {
            kinds = new int[MOST_TUGS];
            pulls = new int[MOST_TUGS];
            ropes = new int[MOST_TUGS];
            frayed = new int[MOST_TUGS];
            places = new int[MOST_PIERS];
            stands = new int[MOST_PIERS];
        }

        void empty() {
            tugs = 0;
            piers = 0;
            mass = 0;
            out = 0;
            hour = 0;
            held = 0;
            for (int t = 0; t < MOST_TUGS; t++) {
                frayed[t] = 0;
            }
        }

        void take(Estuary from) {
            tugs = from.tugs;
            piers = from.piers;
            mass = from.mass;
            out = from.out;
            hour = from.hour;
            held = from.held;
            System.arraycopy(from.kinds, 0, kinds, 0, MOST_TUGS);
            System.arraycopy(from.pulls, 0, pulls, 0, MOST_TUGS);
            System.arraycopy(from.ropes, 0, ropes, 0, MOST_TUGS);
            System.arraycopy(from.frayed, 0, frayed, 0, MOST_TUGS);
            System.arraycopy(from.places, 0, places, 0, MOST_PIERS);
            System.arraycopy(from.stands, 0, stands, 0, MOST_PIERS);
        }

        boolean holds(int t) {
            return (held >> t & 1) == 1;
        }

        void letGo(int t) {
            held &= ~(1 << t);
            frayed[t] = 0;
        }

        void mendRope(int t) {
            held |= 1 << t;
            frayed[t] = 0;
        }

        /** KIND, PULL, ROPE of a TUG, or MASS, is another, as fits() is asked. */
        void suppose(int t, int what, int v) {
            switch (what) {
                case 0: kinds[t] = v; break;
                case 1: pulls[t] = v; break;
                case 2: ropes[t] = v; break;
                default: mass = v; break;
            }
        }

        /** PIERS (bits) that STAND. */
        int standing() {
            int set = 0;
            for (int p = 0; p < piers; p++) {
                set |= stands[p] > 0 ? 1 << p : 0;
            }
            return set;
        }

        int pullOfHolders() {
            int all = 0;
            for (int t = 0; t < tugs; t++) {
                all += holds(t) ? pulls[t] : 0;
            }
            return all;
        }

        int drawOf(int t) {
            if (!holds(t)) {
                return 0;
            }
            switch (kinds[t]) {
                case LAME: return hour % 2 == 1 ? pulls[t] / 2 : pulls[t];
                case STOUT: return pulls[t] + Math.min(5, hour / 4);
                case LAUNCH:
                case BOY: return hour % 3 == 0 ? 0 : pulls[t];
                default: return pulls[t];
            }
        }

        int force() {
            int all = 0;
            for (int t = 0; t < tugs; t++) {
                all += drawOf(t);
            }
            return all;
        }

        int speedBy(int force) {
            if (out == 0 || mass < 1) {
                return 0;
            }
            return Math.min(FASTEST, 4 * force / mass);
        }

        void passHour(boolean fog) {
            int force = 0;
            for (int t = 0; t < tugs; t++) {
                int draw = drawOf(t);
                // Ahead of the fraying: a rope that PARTS in this HOUR has drawn in it all the same.
                force += draw;
                if (draw > ropes[t]) {
                    frayed[t]++;
                }
                if (ropeIsThrough(t)) {
                    letGo(t);
                }
            }
            int speed = speedBy(fog ? force / 2 : force);
            if (speed >= BOY_PARTS) {
                partBoys();
            }
            if (speed > 0) {
                comeNearer(speed);
            }
            hour++;
        }

        /** Asked of FRAYED alone: a stout one's rope, taken as another KIND's, may be through before it frays on. */
        private boolean ropeIsThrough(int t) {
            return frayed[t] >= (kinds[t] == STOUT ? STOUT_PARTS_AT : PARTS_AT);
        }

        private void partBoys() {
            for (int t = 0; t < tugs; t++) {
                if (kinds[t] == BOY) {
                    letGo(t);
                }
            }
        }

        private void comeNearer(int speed) {
            int p = pierOnTheWay(speed);
            if (p < 0) {
                out = Math.max(0, out - speed);
                return;
            }
            int stop = places[p] + 1;
            int left = speed - (out - stop);
            stands[p] = Math.max(0, stands[p] - left);
            out = stop;
        }

        /** The farthest out that STANDS, the first of several at one place; -1, if the way is free. */
        private int pierOnTheWay(int speed) {
            int farthest = -1;
            for (int p = 0; p < piers; p++) {
                boolean onTheWay = stands[p] > 0 && places[p] < out && places[p] >= out - speed;
                if (onTheWay && (farthest < 0 || places[p] > places[farthest])) {
                    farthest = p;
                }
            }
            return farthest;
        }

        /** What X brings in YEARS, ahead of an HOUR. */
        void befall(long x) {
            if (tugs < 1) {
                return;
            }
            int t = (int) (x % tugs);
            if (!holds(t)) {
                mendRope(t);
            } else if (x % 5 == 0) {
                letGo(t);
            }
            if (out == 0) {
                out = (int) (x % 99) + 1;
            }
        }
    }

    /** The latest ACTS, each as the ESTUARY was ahead of it; the oldest gives way. */
    private static final class Acts {
        final Estuary[] before;
        int oldest;
        int kept;

        Acts() {
            before = new Estuary[MOST_ACTS];
            for (int a = 0; a < MOST_ACTS; a++) {
                before[a] = new Estuary();
            }
        }

        void forget() {
            oldest = 0;
            kept = 0;
        }

        void keep(Estuary was) {
            before[(oldest + kept) % MOST_ACTS].take(was);
            if (kept < MOST_ACTS) {
                kept++;
            } else {
                oldest = (oldest + 1) % MOST_ACTS;
            }
        }

        /** Undoes the latest: how many are kept yet. */
        int takeBack(Estuary to) {
            if (kept > 0) {
                kept--;
                to.take(before[(oldest + kept) % MOST_ACTS]);
            }
            return kept;
        }
    }

    /** ASKS, by BODIES, and THE TRACE that they leave. */
    private static final class Asker {
        static final int SIZE_ASK = 0, MARK_ASK = 1, DEEPEST = 16;

        /** By KIND: the BODY that begins, its own or that of the nearest KIND that it is, too. */
        private static final int[] SIZE_BODY = {10, 11, 12, 11, 13, 14};
        private static final int[] MARK_BODY = {20, 21, 24, 22, 23, 23};

        final int[] bodies;
        int length;

        Asker() {
            bodies = new int[MOST_TRACED];
        }

        int answer(Estuary in, int t, int what) {
            length = 0;
            return begin(what, in, t, 0);
        }

        private int begin(int what, Estuary in, int t, int depth) {
            int k = in.kinds[t];
            if (k < 0 || k > LAST_KIND) {
                return 0;
            }
            return body(what == SIZE_ASK ? SIZE_BODY[k] : MARK_BODY[k], in, t, depth);
        }

        private int body(int number, Estuary in, int t, int depth) {
            if (depth > DEEPEST) {
                return 0;
            }
            leave(number);
            int next = depth + 1;
            switch (number) {
                case 10: return in.pulls[t];
                case 11: return body(10, in, t, next) + begin(MARK_ASK, in, t, next);
                case 12: return -body(11, in, t, next);
                case 13: return body(10, in, t, next) - 100;
                case 14: return 2 * body(13, in, t, next);
                case 20: return t;
                case 21: return body(20, in, t, next) + in.frayed[t];
                case 22: return body(21, in, t, next) - 1000;
                case 23: return body(20, in, t, next) - begin(SIZE_ASK, in, t, next);
                case 24: return 2 * body(21, in, t, next);
                default: return 0;
            }
        }

        private void leave(int number) {
            if (length < MOST_TRACED) {
                bodies[length] = number;
                length++;
            }
        }
    }
}
