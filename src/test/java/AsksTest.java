/** Section 4 of the document, and the promises 31 to 34: ASKS, THE TRACE, counts, status(); an object's last call. */
public final class AsksTest {
    private static final int NONE = -1000000, BAD = -1000001;
    private static final int MIN = Integer.MIN_VALUE, MAX = Integer.MAX_VALUE;

    private static final Sentences s = new Sentences("asks");

    public static void main(String[] args) {
        sizesAndMarks();
        traces();
        emptyAhead();
        traceEnds();
        counts();
        countsBeforeAnything();
        statusOfCallsWithARow();
        statusOfOtherCalls();
        statusOfRefusals();
        termsInAll();
        lastCall();
        s.end();
    }

    /** By the sentences, BODY by BODY. */
    private static int sizeDue(int kind, int number, int pull, int frayed) {
        switch (kind) {
            case 1: return pull + number + frayed;
            case 2: return 0 - (pull + 2 * (number + frayed));
            case 3: return pull + number + frayed - 1000;
            case 4: return pull - 100;
            default: return 2 * (pull - 100);
        }
    }

    private static int markDue(int kind, int number, int pull, int frayed) {
        switch (kind) {
            case 1: return number + frayed;
            case 2: return 2 * (number + frayed);
            case 3: return number + frayed - 1000;
            default: return number - sizeDue(kind, number, pull, frayed);
        }
    }

    private static void sizesAndMarks() {
        s.says("0 SIZE: 10 lent to all TUGS: PULL. 11 of PADDLERS: what 10 gives, and MARK. 12 of LAME ones: 0 less what 11"
            + " gives. 13 of LAUNCHES: what 10 gives, less 100. 14 of those with a BOY: what 13 gives, twice. 1 MARK: 20"
            + " lent to all TUGS: the number. 21 of PADDLERS: what 20 gives, and FRAYED. 22 of STOUT ones: what 21 gives,"
            + " less 1000. 23 of LAUNCHES: what 20 gives, less SIZE. 24 of LAME ones: what 21 gives, twice.");
        String sorts = "plsab";
        for (int pull : new int[] {1, 7, 20}) {
            for (int first = 0; first < 5; first++) {
                StringBuilder text = new StringBuilder("t60,99;");
                for (int t = 0; t < 6; t++) text.append(sorts.charAt((first + t) % 5)).append(pull).append(",1;");
                TugLines x = Sentences.told(text.toString());
                for (int h = 0; h < 7; h++) {
                    for (int t = 0; t < 6; t++) {
                        int kind = (first + t) % 5 + 1;
                        int frayed = x.tug(t, 2);
                        s.due("SIZE of " + t + " in HOUR " + h, x.ask(t, 0), sizeDue(kind, t, pull, frayed));
                        s.due("MARK of " + t + " in HOUR " + h, x.ask(t, 1), markDue(kind, t, pull, frayed));
                    }
                    x.hours(1);
                }
            }
        }
        // Of one that does not HOLD as of any; by PULL as it is now.
        TugLines x = Sentences.told("t60,99;p9,20;l9,20;");
        x.loose(1);
        x.pull(1, 3);
        s.due("SIZE of one that does not HOLD", x.ask(1, 0), -5);
        s.due("MARK of one that does not HOLD", x.ask(1, 1), 2);
    }

    private static void traced(TugLines x, int tug, int what, int... bodies) {
        x.ask(tug, what);
        for (int i = 0; i < 16; i++) {
            s.due("trace(" + i + ") of ask(" + tug + ", " + what + ")", x.trace(i), i < bodies.length ? bodies[i] : NONE);
        }
    }

    private static void traces() {
        s.says("ASKS of TUGS, by BODIES, each of which leaves its number in THE TRACE as it begins (the first 16)");
        TugLines x = Sentences.told("t60,99;p9,2;l9,2;s9,2;a9,2;b9,2;");
        traced(x, 0, 0, 11, 10, 21, 20);
        traced(x, 1, 0, 12, 11, 10, 24, 21, 20);
        traced(x, 2, 0, 11, 10, 22, 21, 20);
        traced(x, 3, 0, 13, 10);
        traced(x, 4, 0, 14, 13, 10);
        s.says("Of an ask the BODY told for the KIND begins, else that of the nearest KIND that it is, too, else the one that"
            + " is lent; SIZE, MARK within others are asked of the same TUG anew.");
        traced(x, 0, 1, 21, 20);
        traced(x, 1, 1, 24, 21, 20);
        traced(x, 2, 1, 22, 21, 20);
        traced(x, 3, 1, 23, 20, 13, 10);
        traced(x, 4, 1, 23, 20, 14, 13, 10);
        s.says("By this it is asked.");
        // A stout one is a PADDLER, but no LAME one; one with a boy is a LAUNCH, too.
        s.due("a stout one is a PADDLER", x.as(2, 1), 2);
        s.due("a stout one is LAME", x.as(2, 2), -1000013);
        traced(x, 2, 0, 11, 10, 22, 21, 20);
        s.due("one with a boy is a LAUNCH", x.as(4, 4), 4);
        s.due("one with a boy is a PADDLER", x.as(4, 1), -1000013);
        traced(x, 4, 1, 23, 20, 14, 13, 10);
    }

    private static void emptyAhead() {
        s.says("THE TRACE is empty ahead of it.");
        TugLines x = Sentences.told("t60,99;p9,2;l9,2;");
        traced(x, 1, 0, 12, 11, 10, 24, 21, 20);
        traced(x, 0, 1, 21, 20);
        s.due("refused", x.ask(2, 0), BAD);
        s.due("stays by that", x.trace(0), 21);
        s.due("refused", x.ask(0, 2), BAD);
        s.due("stays by that", x.trace(1), 20);
        Sentences.read(x, "t1,1;b1,1;");
        s.due("stays with another ESTUARY", x.trace(0), 21);
        traced(x, 0, 0, 14, 13, 10);
    }

    private static void traceEnds() {
        s.says("Number i of THE TRACE; NONE.");
        TugLines x = Sentences.told("t60,99;l9,2;");
        for (int i = -1; i <= 17; i++) s.due("ahead of an ASK, " + i, x.trace(i), NONE);
        x.ask(0, 0);
        s.due("the first", x.trace(0), 12);
        s.due("the last", x.trace(5), 20);
        for (int i : new int[] {-1, 6, 15, 16, 17, MIN, MAX}) s.due("trace(" + i + ")", x.trace(i), NONE);
    }

    private static void counts() {
        s.says("How many: 0 ROWS, 1 TUGS, 2 PIERS, 3 HOUR, 4 MASS, 5 OUT, 6 TUGS (bits) that HOLD, 7 ACTS that can be undone,"
            + " 8 bytes on the tape. BAD.");
        TugLines x = Sentences.told("t60,99;p1,20;p1,20;p1,20;p1,20;p1,20;p1,20;q1,1;q1,1;q1,1;q1,1;");
        for (int r = 0; r < 8; r++) {
            x.row(r, 0, 0);
            s.due("ROWS", x.count(0), r + 1);
        }
        x.row(3, 2, 40);
        s.due("ROWS, one in place of another", x.count(0), 8);
        for (int n = 1; n <= 30; n++) {
            x.pull(0, 1);
            s.due("ACTS", x.count(7), Math.min(24, n));
        }
        for (int n = 1; n <= 95; n++) {
            x.feed('t');
            s.due("bytes", x.count(8), Math.min(90, n));
        }
        int[] most = {8, 6, 4, 0, 60, 99, 63, 24, 90};
        for (int what = 0; what <= 8; what++) s.due("count(" + what + ")", x.count(what), most[what]);
        for (int what : new int[] {-1, 9, MIN, MAX}) s.due("count(" + what + ")", x.count(what), BAD);
        x.hours(2);
        x.loose(5);
        x.loose(0);
        s.due("HOUR", x.count(3), 2);
        s.due("who HOLDS", x.count(6), 30);
        x.drop(0);
        x.drop(7);
        s.due("ROWS", x.count(0), 6);
    }

    private static void countsBeforeAnything() {
        s.says("No ESTUARY.");
        TugLines x = new TugLines();
        for (int what = 0; what <= 8; what++) s.due("count(" + what + ")", x.count(what), 0);
        for (int what : new int[] {-1, 9, MIN, MAX}) s.due("count(" + what + ")", x.count(what), BAD);
    }

    private static void statusOfCallsWithARow() {
        s.says("Of the latest call with a ROW, or as(), that was not BAD, STATE, FULL: the number of its FINDING; 0: it had"
            + " none, or there was none.");
        TugLines x = Sentences.told("t4,40;p1,20;");
        s.due("there was none", x.status(), 0);
        // Each FINDING by each call that can have it, and 0 by each call that has none.
        int[] found = {x.set(0, 0, 0), x.status(), x.row(0, 0, 2), x.status(), x.set(0, 2, 0), x.status(),
            x.set(0, 1, 0), x.status(), x.copy(0, 0, 1, 0, 1), x.status(), x.copy(0, 0, 0, 1, 1), x.status(),
            x.copy(0, 0, 0, 1, 2), x.status(), x.drop(0), x.status(), x.drop(0), x.status(),
            x.row(0, 1, 1), x.status(), x.row(0, 0, -1), x.status(), x.row(1, 0, 1), x.status(),
            x.copy(0, 0, 1, 0, 1), x.status(), x.as(0, 0), x.status(), x.as(0, 4), x.status(),
            x.fits(0, 0, 0, 1, 3), x.status(), x.fits(0, 5, 0, 1, 3), x.status(), x.fits(0, 0, 1, 1, 3), x.status(),
            x.fits(0, 0, 0, 1, 4), x.status()};
        int[] wants = {-1000011, 1, 2, 0, -1000012, 2, 0, 0, -1000011, 1, 1, 0, -1000012, 2, 2, 0, -1000011, 1, 1, 0,
            -1000014, 4, 1, 0, -1000015, 5, 0, 0, -1000013, 3, 0, 0, -1000011, 1, -1000012, 2, NONE, 0};
        for (int i = 0; i < wants.length; i++) s.due("answer " + i, found[i], wants[i]);
    }

    private static void statusOfOtherCalls() {
        s.says("Of the latest call with a ROW, or as()");
        TugLines x = Sentences.told("t4,40;p5,4;q30,9;");
        x.row(0, 0, -1);
        int[] answers = {x.feed('t'), x.estuary(), x.fault(), x.hours(1), x.mend(0), x.loose(0), x.pull(0, 2), x.clear(0),
            x.undo(), x.tug(0, 0), x.pier(0, 0), x.later(1, 0), x.arrives(), x.parts(0), x.crew(1, 0), x.cleared(1, 0),
            x.least(0, 1), x.share(0, 1), x.chance(1, 1, 0), x.drawn(1, 1, 0), x.image(0), x.restore(0), x.kind(0),
            x.ask(0, 0), x.trace(0), x.count(0)};
        for (int a : answers) s.that("answered: " + a, a != BAD);
        s.due("status()", x.status(), 4);
        s.due("and again", x.status(), 4);
        Sentences.read(x, "t1,1;p1,1;");
        s.due("with another ESTUARY", x.status(), 4);
    }

    private static void statusOfRefusals() {
        s.says("that was not BAD, STATE, FULL");
        TugLines x = Sentences.told("t4,40;p5,4;");
        x.row(0, 0, 3);
        x.row(1, 1, 3);
        x.copy(0, 0, 1, 0, 1);
        int[] bad = {x.row(8, 0, 1), x.row(0, 3, 1), x.row(0, 0, 41), x.set(8, 0, 0), x.copy(8, 0, 0, 0, 0),
            x.copy(0, 0, 8, 0, 0), x.drop(8), x.fits(1, 0, 0, 1, 0), x.fits(0, 8, 0, 1, 0), x.fits(0, 0, 0, 0, 0),
            x.fits(0, 0, 0, 1, 5), x.as(1, 0), x.as(0, 6), x.mend(1), x.feed(256)};
        for (int b : bad) s.due("refused", b, BAD);
        s.due("status() is the number of STORE yet", x.status(), 5);
        s.due("STATE", x.undo(), -1000002);
        s.due("status() is the number of STORE yet", x.status(), 5);
        x.copy(0, 0, 0, 1, 1);
        for (int k = 0; k < 2; k++) s.due("refused", x.as(1, 0), BAD);
        s.due("status() is 0 yet", x.status(), 0);
    }

    private static void termsInAll() {
        s.says("Numbers go from 0 on.");
        TugLines x = Sentences.told("t4,40;p5,4;q30,9;");
        s.due("TUG 0", x.kind(0), 1);
        s.due("TUG 1", x.kind(1), BAD);
        s.due("PIER 0", x.pier(0, 0), 30);
        s.due("PIER 1", x.pier(1, 0), BAD);
        s.due("ROW 0", x.row(0, 0, 1), 1);
        s.due("ITEM 0", x.set(0, 0, 7), 7);
        s.due("HOUR 0", x.count(3), 0);
        s.says("All that is divided is cut towards 0");
        s.due("half of 9", lame(9), 4);
        s.due("half of 1", lame(1), 0);
        s.due("SPEED, 19 by 5", Sentences.told("t20,99;p19,20;").later(0, 1), 3);
        s.due("SHARE, 2 by 3", Sentences.told("t20,99;p1,20;p2,20;").share(1, 1), 0);
        s.says("Sets are bits.");
        x = Sentences.told("t24,30;p1,20;p1,20;p1,20;p1,20;p1,20;p1,20;q9,1;q8,1;q7,1;q6,1;");
        s.due("TUGS", x.count(6), 63);
        s.due("all but 1", x.loose(1), 61);
        s.due("all but 1 and 4", x.loose(4), 45);
        s.due("PIERS", x.later(0, 3), 15);
        x.clear(2);
        s.due("all but 2", x.later(0, 3), 11);
    }

    /** What a lame one of that PULL DRAWS in HOUR 1. */
    private static int lame(int pull) {
        TugLines x = Sentences.told("t60,99;l" + pull + ",20;");
        x.hours(1);
        return x.tug(0, 4);
    }

    private static void lastCall() {
        s.says("An object is used for at most 512 calls after it has been made");
        TugLines x = Sentences.told("t4,99;p1,20;");
        // 13 calls are behind it.
        for (int call = 14; call <= 511; call++) x.pull(0, 1 + call % 20);
        s.due("call 512", x.undo(), 23);
    }
}
