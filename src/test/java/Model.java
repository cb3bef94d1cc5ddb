import java.math.BigInteger;
import java.util.ArrayDeque;
import java.util.ArrayList;
import java.util.Arrays;
import java.util.Comparator;
import java.util.Deque;
import java.util.List;
import java.util.function.Consumer;
import java.util.function.Predicate;
import java.util.regex.Matcher;
import java.util.regex.Pattern;

/**
 * The document a second time, written for itself and in another way (classes for KINDS, lists, texts, great
 * numbers), so that a slip in the one is not likely to be in the other.
 */
final class Model {
    static final int NONE = -1000000, BAD = -1000001, STATE = -1000002, FULL = -1000003;

    interface Asked {
        int pull();
        int number();
        List<Integer> traced();

        default int size() { traced().add(10); return pull(); }
        default int mark() { traced().add(20); return number(); }
    }

    abstract static class Tug implements Asked {
        int number, pull, rope, frayed, needs = 3, sort;
        boolean holds = true;
        List<Integer> traced = new ArrayList<>();

        public int pull() { return pull; }
        public int number() { return number; }
        public List<Integer> traced() { return traced; }
        abstract int inHour(int hour);
        int draws(int hour) { return holds ? inHour(hour) : 0; }
        void free() { holds = false; frayed = 0; }
        void tie() { holds = true; frayed = 0; }
        boolean scared(int speed) { return false; }

        Tug twin(int asSort) {
            Tug t = make(asSort);
            t.number = number; t.pull = pull; t.rope = rope; t.frayed = frayed; t.holds = holds;
            return t;
        }
    }

    static class Paddler extends Tug {
        int inHour(int hour) { return pull; }
        @Override public int size() { traced.add(11); return super.size() + mark(); }
        @Override public int mark() { traced.add(21); return super.mark() + frayed; }
    }

    static class Lame extends Paddler {
        @Override int inHour(int hour) { return (hour & 1) == 0 ? pull : pull >> 1; }
        @Override public int size() { traced.add(12); return 0 - super.size(); }
        @Override public int mark() { traced.add(24); int m = super.mark(); return m + m; }
    }

    static class Stout extends Paddler {
        Stout() { needs = 6; }
        @Override int inHour(int hour) { int more = hour >> 2; return pull + (more > 5 ? 5 : more); }
        @Override public int mark() { traced.add(22); return super.mark() - 1000; }
    }

    static class Launch extends Tug {
        int inHour(int hour) { return hour % 3 != 0 ? pull : 0; }
        @Override public int size() { traced.add(13); return super.size() - 100; }
        @Override public int mark() { traced.add(23); return super.mark() - size(); }
    }

    static class Boy extends Launch {
        @Override boolean scared(int speed) { return speed >= 5; }
        @Override public int size() { traced.add(14); int s = super.size(); return s + s; }
    }

    static Tug make(int sort) {
        Tug t = sort == 1 ? new Paddler() : sort == 2 ? new Lame() : sort == 3 ? new Stout()
            : sort == 4 ? new Launch() : new Boy();
        t.sort = sort;
        return t;
    }

    static final class Pier {
        final int at;
        int stands;
        Pier(int at, int stands) { this.at = at; this.stands = stands; }
    }

    static final class Scene {
        int mass, out, hour;
        List<Tug> tugs = new ArrayList<>();
        List<Pier> piers = new ArrayList<>();

        Scene twin() {
            Scene s = new Scene();
            s.mass = mass; s.out = out; s.hour = hour;
            for (Tug t : tugs) s.tugs.add(t.twin(t.sort));
            for (Pier p : piers) s.piers.add(new Pier(p.at, p.stands));
            return s;
        }

        int speed(boolean fog) {
            if (out == 0) return 0;
            int force = tugs.stream().mapToInt(t -> t.draws(hour)).sum();
            return Math.min(9, (fog ? force / 2 : force) * 4 / mass);
        }

        void pass(boolean fog) {
            int speed = speed(fog);
            List<Tug> parting = new ArrayList<>();
            for (Tug t : tugs) {
                if (!t.holds) continue;
                if (t.draws(hour) > t.rope) t.frayed++;
                if (t.frayed >= t.needs) parting.add(t);
                if (t.scared(speed)) parting.add(t);
            }
            parting.forEach(Tug::free);
            // Step by step: the first place that may not be come to is the farthest out.
            int left = speed;
            while (left > 0 && out > 0) {
                Pier there = null;
                for (Pier p : piers) if (there == null && p.stands > 0 && p.at == out - 1) there = p;
                if (there != null) { there.stands = Math.max(0, there.stands - left); break; }
                out--;
                left--;
            }
            hour++;
        }

        int holding() {
            int bits = 0;
            for (Tug t : tugs) if (t.holds) bits += 1 << t.number;
            return bits;
        }

        int standing() {
            int bits = 0;
            for (int p = 0; p < piers.size(); p++) if (piers.get(p).stands > 0) bits += 1 << p;
            return bits;
        }

        /** Behind how many of at most n HOURS this is so first; NONE. */
        int firstSo(int n, Predicate<Scene> so) {
            Scene s = twin();
            for (int h = 0; h <= n; h++, s.pass(false)) if (so.test(s)) return h;
            return NONE;
        }

        boolean isIn(int n, Consumer<Scene> change) {
            Scene s = twin();
            change.accept(s);
            for (int h = 0; h < n; h++) s.pass(false);
            return s.out == 0;
        }
    }

    static final class Refused extends Exception {
        private static final long serialVersionUID = 1L;
        final int number, place;
        Refused(int number, int place) { this.number = number; this.place = place; }
    }

    private final int[][] items = new int[8][];
    private final int[] lanes = new int[8];
    private final StringBuilder tape = new StringBuilder();
    private final Deque<Scene> acts = new ArrayDeque<>();
    private final Scene[] images = new Scene[2];
    private Scene scene;
    private int status, fault;
    private List<Integer> trace = new ArrayList<>();

    private static boolean in(int v, int low, int high) { return v >= low && v <= high; }
    private boolean isTug(int t) { return scene != null && in(t, 0, scene.tugs.size() - 1); }
    private boolean isPier(int p) { return scene != null && in(p, 0, scene.piers.size() - 1); }
    private int found(int n) { status = n; return -1000010 - n; }
    private int fine(int v) { status = 0; return v; }

    int row(int row, int lane, int n) {
        if (!in(row, 0, 7) || !in(lane, 0, 2) || n > 40) return BAD;
        if (n < 0) return found(4);
        items[row] = new int[n];
        lanes[row] = lane;
        return fine(n);
    }

    int set(int row, int i, int v) {
        if (!in(row, 0, 7)) return BAD;
        if (items[row] == null) return found(1);
        if (!in(i, 0, items[row].length - 1)) return found(2);
        int shift = lanes[row] == 0 ? 24 : lanes[row] == 1 ? 16 : 0;
        return fine(items[row][i] = v << shift >> shift);
    }

    int copy(int a, int i, int b, int j, int n) {
        if (!in(a, 0, 7) || !in(b, 0, 7)) return BAD;
        if (items[a] == null || items[b] == null) return found(1);
        if (lanes[a] != lanes[b]) return found(5);
        if (i < 0 || j < 0 || n < 0 || (long) i + n > items[a].length || (long) j + n > items[b].length) return found(2);
        int[] were = items[a].clone();
        for (int k = 0; k < n; k++) items[b][j + k] = were[i + k];
        return fine(n);
    }

    int drop(int row) {
        if (!in(row, 0, 7)) return BAD;
        if (items[row] == null) return found(1);
        int had = items[row].length;
        items[row] = null;
        return fine(had);
    }

    int feed(int letter) {
        if (!in(letter, 0, 255)) return BAD;
        if (tape.length() == 90) return FULL;
        return tape.append((char) letter).length();
    }

    int estuary() {
        String text = tape.toString();
        tape.setLength(0);
        try {
            scene = read(text);
            acts.clear();
            return scene.tugs.size();
        } catch (Refused r) {
            fault = r.number;
            return -1000100 - r.place;
        }
    }

    private static final Pattern TOKEN = Pattern.compile("[a-z]|[0-9]+|[,;]|[\\s\\S]");

    /** TOKENS by a pattern; what may stand next goes by which of the five of a clause it is. */
    private static Scene read(String text) throws Refused {
        Scene s = new Scene();
        Matcher m = TOKEN.matcher(text);
        int step = 0;
        char clause = 0;
        int first = 0;
        while (m.find()) {
            String token = m.group();
            int at = m.start();
            char c = token.charAt(0);
            boolean number = in(c, '0', '9');
            if (number && token.length() > 2) throw new Refused(1, at);
            int which = step % 5;
            if (which == 0) {
                String may = step == 0 ? "t" : !s.piers.isEmpty() ? "q" : s.tugs.isEmpty() ? "plsab" : "plsabq";
                if (number || may.indexOf(c) < 0) throw new Refused(1, at);
                if (c == 'q' ? s.piers.size() == 4 : s.tugs.size() == 6) throw new Refused(3, at);
                clause = c;
            } else if (which == 2 || which == 4) {
                if (c != (which == 2 ? ',' : ';')) throw new Refused(1, at);
            } else {
                if (!number) throw new Refused(1, at);
                int v = Integer.parseInt(token);
                int low = clause == 'q' && which == 1 ? 0 : 1;
                int high = clause == 't' ? (which == 1 ? 60 : 99) : clause == 'q' && which == 1 ? 98 : 20;
                if (!in(v, low, high)) throw new Refused(2, at);
                if (which == 1) first = v;
                else if (clause == 't') { s.mass = first; s.out = v; }
                else if (clause == 'q') s.piers.add(new Pier(first, v));
                else {
                    Tug t = make("plsab".indexOf(clause) + 1);
                    t.number = s.tugs.size(); t.pull = first; t.rope = v;
                    s.tugs.add(t);
                }
            }
            step++;
        }
        if (step % 5 != 0 || s.tugs.isEmpty()) throw new Refused(1, text.length());
        return s;
    }

    int fault() { return fault; }

    private void act(Consumer<Scene> change) {
        acts.addLast(scene.twin());
        if (acts.size() > 24) acts.removeFirst();
        change.accept(scene);
    }

    int hours(int n) {
        if (scene == null) return STATE;
        if (!in(n, 1, 24)) return BAD;
        if (scene.hour + n > 9999) return FULL;
        for (int h = 0; h < n; h++) act(s -> s.pass(false));
        return scene.out;
    }

    int mend(int tug) {
        if (!isTug(tug)) return BAD;
        Tug t = scene.tugs.get(tug);
        if (t.holds && t.frayed == 0) return STATE;
        act(s -> s.tugs.get(tug).tie());
        return scene.holding();
    }

    int loose(int tug) {
        if (!isTug(tug)) return BAD;
        if (!scene.tugs.get(tug).holds) return STATE;
        act(s -> s.tugs.get(tug).free());
        return scene.holding();
    }

    int pull(int tug, int v) {
        if (!isTug(tug) || !in(v, 1, 20)) return BAD;
        int was = scene.tugs.get(tug).pull;
        act(s -> s.tugs.get(tug).pull = v);
        return was;
    }

    int clear(int pier) {
        if (!isPier(pier)) return BAD;
        int was = scene.piers.get(pier).stands;
        if (was == 0) return STATE;
        act(s -> s.piers.get(pier).stands = 0);
        return was;
    }

    int undo() {
        if (acts.isEmpty()) return STATE;
        scene = acts.removeLast();
        return acts.size();
    }

    int tug(int tug, int what) {
        if (!isTug(tug) || !in(what, 0, 4)) return BAD;
        Tug t = scene.tugs.get(tug);
        return new int[] {t.pull, t.rope, t.frayed, t.holds ? 1 : 0, t.draws(scene.hour)}[what];
    }

    int pier(int pier, int what) {
        if (!isPier(pier) || !in(what, 0, 1)) return BAD;
        Pier p = scene.piers.get(pier);
        return what == 0 ? p.at : p.stands;
    }

    int later(int d, int what) {
        if (scene == null) return STATE;
        if (!in(d, 0, 60) || !in(what, 0, 3)) return BAD;
        Scene s = scene.twin();
        for (int h = 0; h < d; h++) s.pass(false);
        return new int[] {s.out, s.speed(false), s.holding(), s.standing()}[what];
    }

    int arrives() { return scene == null ? STATE : scene.firstSo(60, s -> s.out == 0); }

    int parts(int tug) { return !isTug(tug) ? BAD : scene.firstSo(60, s -> !s.tugs.get(tug).holds); }

    /** Sets within a set, the smallest first, of these the least first. */
    private static List<Integer> setsOf(int whole) {
        List<Integer> sets = new ArrayList<>();
        for (int set = 0; set <= whole; set++) if ((set | whole) == whole) sets.add(set);
        sets.sort(Comparator.comparingInt((Integer set) -> Integer.bitCount(set)).thenComparingInt(set -> set));
        return sets;
    }

    int crew(int n, int what) {
        if (scene == null) return STATE;
        if (!in(n, 1, 30) || !in(what, 0, 1)) return BAD;
        for (int set : setsOf(scene.holding())) {
            boolean does = scene.isIn(n, s -> {
                for (Tug t : s.tugs) if (t.holds && (set >> t.number) % 2 == 0) t.free();
            });
            if (does) return what == 0 ? Integer.bitCount(set) : set;
        }
        return NONE;
    }

    int cleared(int n, int what) {
        if (scene == null) return STATE;
        if (!in(n, 1, 30) || !in(what, 0, 1)) return BAD;
        for (int set : setsOf(scene.standing())) {
            boolean does = scene.isIn(n, s -> {
                for (int p = 0; p < s.piers.size(); p++) if ((set >> p) % 2 == 1) s.piers.get(p).stands = 0;
            });
            if (does) return what == 0 ? Integer.bitCount(set) : set;
        }
        return NONE;
    }

    int least(int tug, int n) {
        if (!isTug(tug) || !in(n, 1, 30)) return BAD;
        for (int v = 1; v <= 20; v++) {
            int pull = v;
            if (scene.isIn(n, s -> s.tugs.get(tug).pull = pull)) return v;
        }
        return NONE;
    }

    int share(int tug, int n) {
        if (!isTug(tug) || !in(n, 0, 999)) return BAD;
        int all = scene.tugs.stream().filter(t -> t.holds).mapToInt(t -> t.pull).sum();
        int[] shares = new int[6];
        int given = 0;
        for (Tug t : scene.tugs) if (t.holds) given += shares[t.number] = n * t.pull / all;
        if (all == 0) return 0;
        for (Tug t : scene.tugs) if (t.holds && given < n) { shares[t.number]++; given++; }
        return shares[tug];
    }

    /** For the tests: OUT behind each of n HOURS, were the TUG of that KIND (0: as it is). */
    int[] outsAs(int tug, int sort, int n) {
        Scene s = scene.twin();
        if (isTug(tug) && sort > 0) s.tugs.set(tug, s.tugs.get(tug).twin(sort));
        int[] outs = new int[n];
        for (int h = 0; h < n; h++) { s.pass(false); outs[h] = s.out; }
        return outs;
    }

    int fits(int tug, int row, int i, int n, int what) {
        if (!isTug(tug) || !in(row, 0, 7) || !in(n, 1, 12) || !in(what, 0, 4)) return BAD;
        if (items[row] == null) return found(1);
        if (i < 0 || (long) i + n > items[row].length) return found(2);
        int[] told = Arrays.copyOfRange(items[row], i, i + n);
        List<Integer> fitting = new ArrayList<>();
        for (int v = 1; v <= new int[] {5, 20, 20, 60, 60}[what]; v++) {
            Scene s = scene.twin();
            Tug t = s.tugs.get(tug);
            if (what == 0) s.tugs.set(tug, t.twin(v));
            if (what == 1) t.pull = v;
            if (what == 2) t.rope = v;
            if (what >= 3) s.mass = v;
            int[] outs = new int[n];
            for (int h = 0; h < n; h++) { s.pass(false); outs[h] = s.out; }
            if (Arrays.equals(outs, told)) fitting.add(v);
        }
        if (what == 3) return fine(fitting.size());
        if (what == 4) return fine(fitting.isEmpty() ? NONE : fitting.get(0));
        return fine(fitting.stream().mapToInt(v -> 1 << v).sum());
    }

    int chance(int n, int c, int what) {
        if (scene == null) return STATE;
        if (!in(n, 0, 8) || !in(c, 0, 10) || !in(what, 0, 1)) return BAD;
        BigInteger above = BigInteger.ZERO;
        BigInteger below = BigInteger.TEN.pow(n);
        for (int fogs = 0; fogs < 1 << n; fogs++) {
            Scene s = scene.twin();
            BigInteger ways = BigInteger.ONE;
            for (int h = 0; h < n; h++) {
                boolean fog = (fogs >> h & 1) == 1;
                ways = ways.multiply(BigInteger.valueOf(fog ? c : 10 - c));
                s.pass(fog);
            }
            if (s.out == 0) above = above.add(ways);
        }
        BigInteger common = above.gcd(below);
        return (what == 0 ? above : below).divide(common).intValueExact();
    }

    int drawn(int n, int seed, int what) {
        if (scene == null) return STATE;
        if (!in(n, 0, 60) || !in(seed, 1, 999999) || !in(what, 0, 1)) return BAD;
        BigInteger x = BigInteger.valueOf(seed);
        Scene s = scene.twin();
        int often = 0;
        for (int h = 0; h < n; h++) {
            x = x.multiply(BigInteger.valueOf(16807)).mod(BigInteger.valueOf(Integer.MAX_VALUE));
            int now = x.intValueExact();
            Tug t = s.tugs.get(now % s.tugs.size());
            if (!t.holds) t.tie();
            else if (now % 5 == 0) t.free();
            if (s.out == 0) s.out = now % 99 + 1;
            s.pass(false);
            if (s.out == 0) often++;
        }
        return what == 0 ? often : (int) s.tugs.stream().filter(t -> t.holds).count();
    }

    int image(int k) {
        if (!in(k, 0, 1)) return BAD;
        if (scene == null) return STATE;
        images[k] = scene.twin();
        return 1;
    }

    int restore(int k) {
        if (!in(k, 0, 1)) return BAD;
        if (images[k] == null) return STATE;
        scene = images[k].twin();
        acts.clear();
        return 1;
    }

    int kind(int tug) { return isTug(tug) ? scene.tugs.get(tug).sort : BAD; }

    int as(int tug, int kind) {
        if (!isTug(tug) || !in(kind, 0, 5)) return BAD;
        Class<?>[] kinds = {Tug.class, Paddler.class, Lame.class, Stout.class, Launch.class, Boy.class};
        return kinds[kind].isInstance(scene.tugs.get(tug)) ? fine(tug) : found(3);
    }

    int ask(int tug, int what) {
        if (!isTug(tug) || !in(what, 0, 1)) return BAD;
        Tug t = scene.tugs.get(tug);
        t.traced = new ArrayList<>();
        int answer = what == 0 ? t.size() : t.mark();
        trace = t.traced;
        return answer;
    }

    int trace(int i) { return in(i, 0, Math.min(16, trace.size()) - 1) ? trace.get(i) : NONE; }

    int count(int what) {
        if (!in(what, 0, 8)) return BAD;
        if (what == 0) return (int) Arrays.stream(items).filter(r -> r != null).count();
        if (what == 7) return acts.size();
        if (what == 8) return tape.length();
        if (scene == null) return 0;
        return new int[] {0, scene.tugs.size(), scene.piers.size(), scene.hour, scene.mass, scene.out,
            scene.holding()}[what];
    }

    int status() { return status; }
}
