import java.util.ArrayList;
import java.util.List;
import java.util.Random;

/** Long runs of calls by draws (always the same ones), each answer against the Model's. */
public final class ModelTest {
    private static final int RUNS = 2500, CALLS = 512;

    private final Random random;
    private final TugLines x = new TugLines();
    private final Model m = new Model();
    private final List<String> calls = new ArrayList<>();
    private final Check check;
    private boolean wrong;
    private int frayedFits;

    private ModelTest(long seed, Check check) {
        this.random = new Random(seed);
        this.check = check;
    }

    public static void main(String[] args) {
        Check check = new Check("against the model");
        int[] seen = new int[12];
        for (int run = 0; run < RUNS && check.wrong() < 5; run++) {
            ModelTest test = new ModelTest(run, check);
            test.run();
            test.see(seen);
        }
        // A run that never comes to the rarer things would show nothing of them.
        String[] rare = {"FULL tapes", "places of FAULTS", "a FRAYED rope", "a forgotten ACT",
            "fits() of a stout one FRAYED 3 or more"};
        for (int k = 0; k < rare.length; k++) check.that("the runs came to " + rare[k] + ": " + seen[k], seen[k] > 20);
        check.end();
    }

    private void see(int[] seen) {
        seen[4] += frayedFits;
        for (String call : calls) {
            if (call.startsWith("feed") && call.endsWith("= -1000003")) seen[0]++;
            if (call.startsWith("estuary") && call.contains("= -10001")) seen[1]++;
            if (call.startsWith("tug") && call.contains(", 2)") && !call.endsWith("= 0") && !call.contains("= -")) seen[2]++;
            if (call.equals("count(7) = 24")) seen[3]++;
        }
    }

    private void run() {
        while (calls.size() < CALLS && !wrong) {
            if (x.count(1) == 0 || random.nextInt(60) == 0) feedText();
            else if (random.nextInt(25) == 0) tellRow();
            else if (random.nextInt(40) == 0) askAll();
            else anyCall(random.nextInt(33));
        }
    }

    private void see(String call, int got, int want) {
        calls.add(call + " = " + got);
        check.due(call, got, want);
        if (got != want && !wrong) {
            wrong = true;
            calls.forEach(c -> System.out.println("    " + c));
        }
    }

    /** Mostly within, at times at or beyond the edges. */
    private int about(int low, int high) {
        switch (random.nextInt(40)) {
            case 0: return low - 1;
            case 1: return high + 1;
            case 2: return low;
            case 3: return high;
            case 4: return random.nextInt(8) == 0 ? Integer.MIN_VALUE : low;
            case 5: return random.nextInt(8) == 0 ? Integer.MAX_VALUE : high;
            default: return low + random.nextInt(high - low + 1);
        }
    }

    private int aTug() {
        return random.nextInt(8) == 0 ? about(0, 5) : random.nextInt(Math.max(1, x.count(1)));
    }

    private int number(int low, int high) {
        return random.nextInt(60) == 0 ? about(low, high) : low + random.nextInt(high - low + 1);
    }

    /** A heavy THING far out, and stout ones that fray as they grow: they are FRAYED 3 to 5 for many HOURS. */
    private String stoutText() {
        StringBuilder s = new StringBuilder();
        s.append('t').append(number(10, 30)).append(",99;");
        for (int t = random.nextInt(3); t >= 0; t--) {
            int pull = number(1, 15);
            s.append('s').append(pull).append(',').append(pull + random.nextInt(3)).append(';');
        }
        return s.toString();
    }

    private String text() {
        if (random.nextInt(6) == 0) return stoutText();
        StringBuilder s = new StringBuilder();
        int most = random.nextInt(3) == 0 ? 60 : 20;
        s.append('t').append(Math.abs(number(1, most))).append(',').append(Math.abs(number(1, 99))).append(';');
        int tugs = random.nextInt(30) == 0 ? 7 : 1 + random.nextInt(6);
        for (int t = 0; t < tugs; t++) {
            s.append("plsab".charAt(random.nextInt(5))).append(Math.abs(number(1, 20))).append(',')
                .append(Math.abs(number(1, 20))).append(';');
        }
        int piers = random.nextInt(30) == 0 ? 5 : random.nextInt(5);
        for (int p = 0; p < piers; p++) {
            s.append('q').append(Math.abs(number(0, random.nextBoolean() ? 98 : 9))).append(',')
                .append(Math.abs(number(1, 20))).append(';');
        }
        if (random.nextInt(4) == 0) spoil(s);
        return s.toString();
    }

    private void spoil(StringBuilder s) {
        String signs = "tplsabqz0123456789,; A";
        for (int n = 1 + random.nextInt(2); n > 0 && s.length() > 0; n--) {
            int at = random.nextInt(s.length());
            char c = random.nextInt(12) == 0 ? (char) random.nextInt(256) : signs.charAt(random.nextInt(signs.length()));
            switch (random.nextInt(4)) {
                case 0: s.setCharAt(at, c); break;
                case 1: s.insert(at, c); break;
                case 2: s.deleteCharAt(at); break;
                default: s.setLength(at); break;
            }
        }
    }

    private void feedText() {
        String text = text();
        if (random.nextInt(20) == 0) text = text + text + text;
        for (int k = 0; k < text.length(); k++) {
            int letter = text.charAt(k);
            see("feed(" + letter + ")", x.feed(letter), m.feed(letter));
        }
        see("estuary()", x.estuary(), m.estuary());
        see("fault()", x.fault(), m.fault());
        see("count(8)", x.count(8), m.count(8));
    }

    /** A ROW of what is to come, at times were a TUG of another KIND, so that some of what is supposed fits it. */
    private void tellRow() {
        int r = random.nextInt(8);
        int n = 1 + random.nextInt(12);
        int t = aTug();
        int[] outs = m.outsAs(t, random.nextInt(6), n);
        see("row(" + r + ", 2, " + n + ")", x.row(r, 2, n), m.row(r, 2, n));
        for (int i = 0; i < n; i++) {
            int v = outs[i] + (random.nextInt(40) == 0 ? 1 : 0);
            see("set(" + r + ", " + i + ", " + v + ")", x.set(r, i, v), m.set(r, i, v));
        }
        frayedFits += m.kind(t) == 3 && m.tug(t, 2) >= 3 ? 1 : 0;
        for (int what = 0; what < 5; what++) {
            see("fits(" + t + ", " + r + ", 0, " + n + ", " + what + ")", x.fits(t, r, 0, n, what), m.fits(t, r, 0, n, what));
        }
    }

    private void askAll() {
        for (int t = 0; t < 6; t++) {
            for (int what = 0; what < 2; what++) {
                see("ask(" + t + ", " + what + ")", x.ask(t, what), m.ask(t, what));
                for (int i = -1; i < 8; i++) see("trace(" + i + ")", x.trace(i), m.trace(i));
            }
            for (int k = 0; k < 6; k++) see("as(" + t + ", " + k + ")", x.as(t, k), m.as(t, k));
        }
    }

    private void anyCall(int which) {
        int a, b, c, d, e;
        switch (which) {
            case 0: a = about(0, 7); b = about(0, 2); c = about(0, 40);
                see("row(" + a + ", " + b + ", " + c + ")", x.row(a, b, c), m.row(a, b, c)); break;
            case 1: a = about(0, 7); b = about(0, 39); c = random.nextInt();
                see("set(" + a + ", " + b + ", " + c + ")", x.set(a, b, c), m.set(a, b, c)); break;
            case 2: a = about(0, 7); b = about(0, 20); c = random.nextBoolean() ? a : about(0, 7); d = about(0, 20);
                e = about(0, 20);
                see("copy(" + a + ", " + b + ", " + c + ", " + d + ", " + e + ")", x.copy(a, b, c, d, e),
                    m.copy(a, b, c, d, e)); break;
            case 3: a = about(0, 7); if (random.nextInt(4) == 0) see("drop(" + a + ")", x.drop(a), m.drop(a)); break;
            case 4: if (random.nextInt(30) == 0) { a = about(0, 255); see("feed(" + a + ")", x.feed(a), m.feed(a)); } break;
            case 5: see("fault()", x.fault(), m.fault()); break;
            case 6: if (random.nextInt(30) == 0) see("estuary()", x.estuary(), m.estuary()); break;
            case 7: a = random.nextInt(3) == 0 ? about(1, 24) : about(1, 3); see("hours(" + a + ")", x.hours(a), m.hours(a)); break;
            case 8: a = aTug(); see("mend(" + a + ")", x.mend(a), m.mend(a)); break;
            case 9: a = aTug(); see("loose(" + a + ")", x.loose(a), m.loose(a)); break;
            case 10: a = aTug(); b = about(1, 20); see("pull(" + a + ", " + b + ")", x.pull(a, b), m.pull(a, b)); break;
            case 11: a = about(0, 3); see("clear(" + a + ")", x.clear(a), m.clear(a)); break;
            case 12: for (int n = random.nextInt(30) == 0 ? 26 : 1 + random.nextInt(3); n > 0; n--) see("undo()", x.undo(), m.undo());
                break;
            case 13: a = aTug(); b = about(0, 4); see("tug(" + a + ", " + b + ")", x.tug(a, b), m.tug(a, b)); break;
            case 14: a = about(0, 3); b = about(0, 1); see("pier(" + a + ", " + b + ")", x.pier(a, b), m.pier(a, b)); break;
            case 15: a = about(0, 60); b = about(0, 3); see("later(" + a + ", " + b + ")", x.later(a, b), m.later(a, b)); break;
            case 16: see("arrives()", x.arrives(), m.arrives()); break;
            case 17: a = aTug(); see("parts(" + a + ")", x.parts(a), m.parts(a)); break;
            default: anyOtherCall(which);
        }
    }

    private void anyOtherCall(int which) {
        int a, b, c, d, e;
        switch (which) {
            case 18: a = about(1, 30); b = about(0, 1); see("crew(" + a + ", " + b + ")", x.crew(a, b), m.crew(a, b)); break;
            case 19: a = about(1, 30); b = about(0, 1); see("cleared(" + a + ", " + b + ")", x.cleared(a, b), m.cleared(a, b)); break;
            case 20: a = aTug(); b = about(1, 30); see("least(" + a + ", " + b + ")", x.least(a, b), m.least(a, b)); break;
            case 21: a = aTug(); b = about(0, 999); see("share(" + a + ", " + b + ")", x.share(a, b), m.share(a, b)); break;
            case 22: a = aTug(); b = about(0, 7); c = about(0, 10); d = about(1, 12); e = about(0, 4);
                see("fits(" + a + ", " + b + ", " + c + ", " + d + ", " + e + ")", x.fits(a, b, c, d, e), m.fits(a, b, c, d, e));
                break;
            case 23: a = about(0, 8); b = about(0, 10); c = about(0, 1);
                see("chance(" + a + ", " + b + ", " + c + ")", x.chance(a, b, c), m.chance(a, b, c)); break;
            case 24: a = about(0, 60); b = about(1, 999999); c = about(0, 1);
                see("drawn(" + a + ", " + b + ", " + c + ")", x.drawn(a, b, c), m.drawn(a, b, c)); break;
            case 25: a = about(0, 1); see("image(" + a + ")", x.image(a), m.image(a)); break;
            case 26: a = about(0, 1); if (random.nextInt(4) == 0) see("restore(" + a + ")", x.restore(a), m.restore(a)); break;
            case 27: a = aTug(); see("kind(" + a + ")", x.kind(a), m.kind(a)); break;
            case 28: a = aTug(); b = about(0, 5); see("as(" + a + ", " + b + ")", x.as(a, b), m.as(a, b)); break;
            case 29: a = aTug(); b = about(0, 1); see("ask(" + a + ", " + b + ")", x.ask(a, b), m.ask(a, b)); break;
            case 30: a = about(0, 7); see("trace(" + a + ")", x.trace(a), m.trace(a)); break;
            case 31: a = about(0, 8); see("count(" + a + ")", x.count(a), m.count(a)); break;
            default: see("status()", x.status(), m.status()); break;
        }
    }
}
