import java.math.BigInteger;
import java.util.function.ToIntFunction;

/** Section 3 of the document, and the promises 17 to 30: what is FORETOLD, IMAGES, KINDS. */
public final class ForetoldTest {
    private static final int NONE = -1000000, BAD = -1000001, STATE = -1000002, PLACE = -1000012, KIND = -1000013;
    /** Bits 1 to 20. */
    private static final int ALL_TWENTY = (1 << 21) - 2;

    private static final Sentences s = new Sentences("foretold");

    public static void main(String[] args) {
        nothingChanges();
        later();
        arrives();
        parts();
        crew();
        crewOfThoseThatHold();
        cleared();
        least();
        share();
        rowsTellOut();
        sorts();
        pullsAndRopes();
        masses();
        chance();
        chanceOfFog();
        years();
        yearsOfASeed();
        images();
        kinds();
        s.end();
    }

    private static TugLines told(String text) {
        return Sentences.told(text);
    }

    private static void asks(String call, ToIntFunction<TugLines> does) {
        Twins.asksOnly(s, call, Twins.RICH, does);
    }

    private static void nothingChanges() {
        s.says("FORETOLD (nothing changes)");
        for (int w = 0; w <= 3; w++) {
            int what = w;
            asks("later(60, " + what + ")", x -> x.later(60, what));
        }
        asks("arrives", TugLines::arrives);
        for (int w = 0; w <= 1; w++) {
            int what = w;
            asks("crew", x -> x.crew(30, what));
            asks("cleared", x -> x.cleared(30, what));
            asks("chance", x -> x.chance(8, 5, what));
            asks("drawn", x -> x.drawn(60, 7, what));
        }
        for (int t = 0; t < 5; t++) {
            int tug = t;
            asks("parts", x -> x.parts(tug));
            asks("least", x -> x.least(tug, 30));
            asks("share", x -> x.share(tug, 999));
            asks("kind", x -> x.kind(tug));
            for (int w = 0; w <= 4; w++) {
                int what = w;
                asks("tug", x -> x.tug(tug, what));
                Twins.changesNothing(s, "fits", Twins.RICH.andThen(x -> x.row(4, 2, 12)), x -> x.fits(tug, 4, 0, 12, what),
                    what == 4 ? NONE : 0, 0);
            }
        }
        asks("pier", x -> x.pier(2, 1));
        asks("trace", x -> x.trace(3));
        asks("fault", TugLines::fault);
        asks("status", TugLines::status);
        for (int w = 0; w <= 8; w++) {
            int what = w;
            asks("count", x -> x.count(what));
        }
    }

    private static void later() {
        s.says("FORETOLD (nothing changes) d HOURS on (0 to 60): OUT; SPEED; TUGS (bits) that HOLD; PIERS (bits) that"
            + " STAND.");
        TugLines x = told("t4,61;p1,20;");
        s.due("OUT now", x.later(0, 0), 61);
        s.due("OUT 59 on", x.later(59, 0), 2);
        s.due("OUT 60 on", x.later(60, 0), 1);
        s.due("SPEED 60 on", x.later(60, 1), 1);
        s.due("61 on", x.later(61, 0), BAD);
        s.due("-1 on", x.later(-1, 0), BAD);
        x = told("t4,60;p1,20;");
        s.due("OUT 60 on", x.later(60, 0), 0);
        s.due("SPEED 59 on", x.later(59, 1), 1);
        s.due("SPEED 60 on: IN", x.later(60, 1), 0);
        x = told("t60,99;p5,4;p5,20;s5,4;");
        int[] holds = {7, 7, 7, 6, 6, 6, 2, 2};
        for (int d = 0; d < holds.length; d++) s.due("who HOLDS " + d + " on", x.later(d, 2), holds[d]);
        s.due("who HOLDS 60 on", x.later(60, 2), 2);
        // SPEED 1: 2 HOURS at 98, an HOUR on, one at 97.
        x = told("t4,99;p1,20;q98,2;q97,1;");
        int[] outs = {99, 99, 99, 98, 98, 97, 96};
        int[] stand = {3, 3, 2, 2, 0, 0, 0};
        for (int d = 0; d < outs.length; d++) {
            s.due("OUT " + d + " on", x.later(d, 0), outs[d]);
            s.due("what STANDS " + d + " on", x.later(d, 3), stand[d]);
        }
        x = told("t4,99;a1,20;q0,1;q1,1;q2,1;q3,1;");
        s.due("all four STAND", x.later(0, 3), 15);
        x.clear(1);
        s.due("three STAND", x.later(0, 3), 13);
        s.due("SPEED in HOUR 0", x.later(0, 1), 0);
        s.due("SPEED in HOUR 1", x.later(1, 1), 1);
        x.hours(1);
        s.due("SPEED in HOUR 1, now", x.later(0, 1), 1);
    }

    private static void arrives() {
        s.says("IN: behind how many HOURS (0 to 60) the THING is IN first; NONE.");
        TugLines x = told("t4,1;p1,20;");
        s.due("1", x.arrives(), 1);
        x.hours(1);
        s.due("0", x.arrives(), 0);
        x.hours(24);
        s.due("0 yet", x.arrives(), 0);
        s.due("59", told("t4,59;p1,20;").arrives(), 59);
        s.due("60", told("t4,60;p1,20;").arrives(), 60);
        s.due("61", told("t4,61;p1,20;").arrives(), NONE);
        s.due("60 by a PIER", told("t4,50;p1,20;q9,10;").arrives(), 60);
        s.due("61 by a PIER", told("t4,50;p1,20;q9,11;").arrives(), NONE);
        s.due("never", told("t5,1;p1,20;").arrives(), NONE);
        x = told("t4,15;p5,4;");
        s.due("by the last pull of a rope", x.arrives(), 3);
        x = told("t4,16;p5,4;");
        s.due("a rope PARTS ahead of it", x.arrives(), NONE);
    }

    private static void parts() {
        s.says("PARTS of a TUG: behind how many HOURS (0 to 60) it does not HOLD first; NONE.");
        TugLines x = told("t60,99;p5,4;p5,5;s5,4;a5,4;l5,4;s5,9;");
        int[] wants = {3, NONE, 6, 5, 5, 26};
        for (int t = 0; t < 6; t++) s.due("TUG " + t, x.parts(t), wants[t]);
        x.hours(2);
        int[] sooner = {1, NONE, 4, 3, 3, 24};
        for (int t = 0; t < 6; t++) s.due("TUG " + t + " from HOUR 2 on", x.parts(t), sooner[t]);
        x.hours(1);
        s.due("PARTED", x.parts(0), 0);
        x.loose(1);
        s.due("let go", x.parts(1), 0);
        x.mend(0);
        s.due("mended", x.parts(0), 3);
        s.due("a boy", told("t4,99;p5,20;b1,20;").parts(1), 1);
        s.due("a boy, 4 and 1 in HOUR 1", told("t4,99;s4,20;b1,20;").parts(1), 2);
        s.due("a boy, when a stout one has grown: 4 and 1 in HOUR 4", told("t4,99;s3,20;b1,20;").parts(1), 5);
        s.due("a boy for whom it is never so", told("t4,99;p3,20;b1,20;").parts(1), NONE);
    }

    private static void crewOf(TugLines x, int n, int many, int which) {
        s.due("how many for " + n, x.crew(n, 0), many);
        s.due("which for " + n, x.crew(n, 1), which);
    }

    private static void crew() {
        s.says("CREW for n HOURS (1 to 30): the fewest TUGS of those that HOLD that, all others letting go now, bring the"
            + " THING IN behind them: how many; which (bits), of several the least; NONE.");
        TugLines x = told("t4,12;p1,20;p2,20;p3,20;");
        crewOf(x, 30, 1, 1);
        crewOf(x, 12, 1, 1);
        crewOf(x, 11, 1, 2);
        crewOf(x, 6, 1, 2);
        crewOf(x, 5, 1, 4);
        // One is fewer than two, though 1 and 2 are the lesser set.
        crewOf(x, 4, 1, 4);
        crewOf(x, 3, 2, 5);
        crewOf(x, 2, 3, 7);
        crewOf(x, 1, NONE, NONE);
        crewOf(told("t4,30;p1,20;"), 30, 1, 1);
        crewOf(told("t4,31;p1,20;"), 30, NONE, NONE);
        crewOf(told("t4,30;p1,20;"), 29, NONE, NONE);
        crewOf(told("t4,9;p9,20;"), 1, 1, 1);
        crewOf(told("t4,10;p9,20;p9,20;"), 1, NONE, NONE);
        crewOf(told("t24,30;p1,20;p1,20;p1,20;p1,20;p1,20;p1,20;"), 30, 6, 63);
        crewOf(told("t20,30;p1,20;p1,20;p1,20;p1,20;p1,20;p1,20;"), 30, 5, 31);
        crewOf(told("t4,30;a1,20;a1,20;a1,20;a1,20;a1,20;p1,20;"), 30, 1, 32);
        x = told("t4,1;p1,20;");
        x.hours(1);
        crewOf(x, 1, 0, 0);
        crewOf(x, 30, 0, 0);
        s.due("0 HOURS", x.crew(0, 0), BAD);
        s.due("31 HOURS", x.crew(31, 0), BAD);
    }

    private static void crewOfThoseThatHold() {
        s.says("the fewest TUGS of those that HOLD that, all others letting go now");
        TugLines x = told("t4,12;p1,20;p2,20;p3,20;");
        x.loose(2);
        crewOf(x, 4, 2, 3);
        crewOf(x, 3, NONE, NONE);
        x.loose(0);
        crewOf(x, 6, 1, 2);
        crewOf(x, 5, NONE, NONE);
        x.loose(1);
        crewOf(x, 30, NONE, NONE);
        // All together scare the boy, who does it alone: 0 4 4 0 4 4.
        x = told("t4,16;p5,4;b4,20;");
        s.due("all", x.later(6, 0), 1);
        crewOf(x, 6, 1, 2);
        crewOf(x, 5, NONE, NONE);
        // FRAYED of those that do not let go stays: a last HOUR of 5.
        x = told("t4,15;p5,4;");
        x.hours(2);
        crewOf(x, 1, 1, 1);
        x = told("t4,16;p5,4;");
        x.hours(2);
        crewOf(x, 30, NONE, NONE);
    }

    private static void clearedOf(TugLines x, int n, int many, int which) {
        s.due("how many for " + n, x.cleared(n, 0), many);
        s.due("which for " + n, x.cleared(n, 1), which);
    }

    private static void cleared() {
        s.says("CLEAR for n HOURS (1 to 30): the fewest PIERS that STAND that, taken off now, let it be IN behind them:"
            + " how many; which (bits), of several the least; NONE.");
        // SPEED 1: 10 HOURS, and as many as each STANDS: 18 with all.
        TugLines x = told("t4,10;p1,20;q8,2;q6,2;q4,4;");
        clearedOf(x, 30, 0, 0);
        clearedOf(x, 18, 0, 0);
        clearedOf(x, 17, 1, 1);
        clearedOf(x, 16, 1, 1);
        // One is fewer than two, though 0 and 1 are the lesser set.
        clearedOf(x, 15, 1, 4);
        clearedOf(x, 14, 1, 4);
        clearedOf(x, 13, 2, 5);
        clearedOf(x, 12, 2, 5);
        clearedOf(x, 11, 3, 7);
        clearedOf(x, 10, 3, 7);
        clearedOf(x, 9, NONE, NONE);
        clearedOf(x, 1, NONE, NONE);
        x.clear(2);
        clearedOf(x, 14, 0, 0);
        clearedOf(x, 13, 1, 1);
        clearedOf(x, 10, 2, 3);
        clearedOf(x, 9, NONE, NONE);
        x = told("t4,10;p1,20;q8,1;q6,1;q4,1;q2,1;");
        clearedOf(x, 14, 0, 0);
        clearedOf(x, 11, 3, 7);
        clearedOf(x, 10, 4, 15);
        clearedOf(told("t4,30;p1,20;"), 30, 0, 0);
        clearedOf(told("t4,31;p1,20;"), 30, NONE, NONE);
        clearedOf(told("t4,29;p1,20;q5,1;"), 30, 0, 0);
        clearedOf(told("t4,29;p1,20;q5,2;"), 30, 1, 1);
        clearedOf(told("t4,1;p1,20;q0,20;"), 21, 0, 0);
        clearedOf(told("t4,1;p1,20;q0,20;"), 20, 1, 1);
        clearedOf(told("t4,1;p1,20;q0,20;"), 1, 1, 1);
        x = told("t4,1;p1,20;q98,20;");
        x.hours(1);
        clearedOf(x, 1, 0, 0);
        s.due("0 HOURS", x.cleared(0, 0), BAD);
        s.due("31 HOURS", x.cleared(31, 0), BAD);
    }

    private static void least() {
        s.says("LEAST of a TUG, n HOURS (1 to 30): the least PULL (1 to 20) of it now by which it is IN behind them; NONE.");
        s.due("1", told("t4,30;p20,20;").least(0, 30), 1);
        s.due("2", told("t4,31;p20,20;").least(0, 30), 2);
        s.due("2", told("t4,30;p20,20;").least(0, 29), 2);
        s.due("9", told("t4,9;p1,20;").least(0, 1), 9);
        s.due("no more than SPEED 9", told("t4,10;p1,20;").least(0, 1), NONE);
        s.due("20", told("t40,2;p1,20;").least(0, 1), 20);
        s.due("21 would do", told("t42,2;p1,20;").least(0, 1), NONE);
        // By 4 a ROPE of 3 PARTS behind 12; by 5 behind 15.
        s.due("5, not 4", told("t4,13;p1,3;").least(0, 4), 5);
        s.due("3, not 4", told("t4,14;p1,3;").least(0, 5), 3);
        // FRAYED stays: 2, and more than ROPE for an HOUR at most; by 3 it is 90 in 30.
        TugLines x = told("t4,99;p5,3;");
        s.due("OUT", x.hours(2), 89);
        s.due("3 for 30", x.least(0, 30), 3);
        s.due("none for 29", x.least(0, 29), NONE);
        x = told("t4,24;p5,3;");
        s.due("OUT", x.hours(2), 14);
        s.due("FRAYED 2: 9 at most, or 3 each", x.least(0, 2), NONE);
        s.due("FRAYED 2: 3 each", x.least(0, 5), 3);
        x.mend(0);
        s.due("FRAYED 0: 7 and 7", x.least(0, 2), 7);
        x = told("t4,30;p1,20;p1,20;");
        s.due("with the other", x.least(0, 15), 1);
        x.loose(0);
        s.due("of one that does not HOLD", x.least(0, 30), 1);
        s.due("of one that does not HOLD", x.least(0, 29), NONE);
        s.due("of the other", x.least(1, 15), 2);
        x = told("t4,1;p9,20;");
        x.hours(1);
        s.due("IN", x.least(0, 1), 1);
        s.due("0 HOURS", x.least(0, 0), BAD);
        s.due("31 HOURS", x.least(0, 31), BAD);
    }

    private static void shares(TugLines x, int n, int... wants) {
        for (int t = 0; t < wants.length; t++) s.due("share(" + t + ", " + n + ")", x.share(t, n), wants[t]);
    }

    private static void share() {
        s.says("SHARE of a TUG, n in all (0 to 999): n times its PULL, by PULL of all that HOLD (cut), what is over 1 each"
            + " to the first of these; 0 of one that does not HOLD.");
        TugLines x = told("t4,30;p1,20;p1,20;p1,20;");
        shares(x, 0, 0, 0, 0);
        shares(x, 1, 1, 0, 0);
        shares(x, 2, 1, 1, 0);
        shares(x, 3, 1, 1, 1);
        shares(x, 998, 333, 333, 332);
        shares(x, 999, 333, 333, 333);
        x.loose(0);
        shares(x, 1, 0, 1, 0);
        shares(x, 999, 0, 500, 499);
        x.loose(1);
        shares(x, 999, 0, 0, 999);
        x.loose(2);
        shares(x, 999, 0, 0, 0);
        shares(told("t4,30;p20,20;p20,20;p20,20;p20,20;p20,20;p20,20;"), 999, 167, 167, 167, 166, 166, 166);
        shares(told("t4,30;p1,20;p20,20;"), 20, 1, 19);
        shares(told("t4,30;p20,20;p1,20;"), 20, 20, 0);
        // By PULL, not by what is DRAWN: launches in HOUR 0.
        shares(told("t4,30;a1,20;p3,20;"), 8, 2, 6);
        x = told("t4,30;p7,20;l11,20;s13,20;a17,20;b19,20;p2,20;");
        x.loose(3);
        for (int n = 0; n <= 999; n += 37) {
            int all = 0;
            for (int t = 0; t < 6; t++) all += x.share(t, n);
            s.due("all of " + n, all, n);
        }
        s.due("1000", x.share(0, 1000), BAD);
        s.due("-1", x.share(0, -1), BAD);
    }

    private static void rowsTellOut() {
        s.says("A row tells OUT behind each of n HOURS (1 to 12) from now on.");
        TugLines x = told("t4,40;p1,20;");
        int[] outs = new int[40];
        for (int i = 0; i < 12; i++) outs[28 + i] = 39 - i;
        Sentences.tell(x, 0, outs);
        s.due("12, to the last place", x.fits(0, 0, 28, 12, 1), 2);
        s.due("12, beyond it", x.fits(0, 0, 29, 12, 1), PLACE);
        s.due("11 of them", x.fits(0, 0, 28, 11, 1), 2);
        s.due("1 of them", x.fits(0, 0, 28, 1, 1), 2);
        s.due("1, the last: 28", x.fits(0, 0, 39, 1, 1), 0);
        s.due("none", x.fits(0, 0, 28, 0, 1), BAD);
        s.due("13", x.fits(0, 0, 27, 13, 1), BAD);
        x.set(0, 39, 29);
        s.due("the last is not so", x.fits(0, 0, 28, 12, 1), 0);
        s.due("all but the last", x.fits(0, 0, 28, 11, 1), 2);
        x.set(0, 39, 28);
        x.set(0, 28, 40);
        s.due("the first is not so", x.fits(0, 0, 28, 12, 1), 0);
        x.set(0, 28, 39);
        x.set(0, 33, 33);
        s.due("one in the midst is not so", x.fits(0, 0, 28, 12, 1), 0);
        x.set(0, 33, 34);
        s.due("all are so again", x.fits(0, 0, 28, 12, 1), 2);
        x.hours(1);
        s.due("from now on: 38 is the first", x.fits(0, 0, 29, 11, 1), 2);
        s.due("39 is no more", x.fits(0, 0, 28, 12, 1), 0);
        // Bytes: 256 less is not what is told.
        x = told("t4,99;p1,20;");
        x.row(1, 0, 1);
        x.set(1, 0, 98 + 128);
        s.due("a byte below 0", x.fits(0, 1, 0, 1, 1), 0);
    }

    private static void sorts() {
        s.says("SORTS: KINDS (bits 1 to 5) of a TUG by which it is so");
        TugLines x = told("t4,99;p8,20;");
        Sentences.tell(x, 0, 91, 87);
        s.due("a lame one", x.fits(0, 0, 0, 2, 0), 4);
        Sentences.tell(x, 0, 99);
        s.due("a launch, one with a boy", x.fits(0, 0, 0, 1, 0), 16 + 32);
        x = told("t4,99;a5,20;");
        Sentences.tell(x, 0, 99, 94, 89);
        s.due("a launch", x.fits(0, 0, 0, 3, 0), 16);
        Sentences.tell(x, 0, 99, 94, 94);
        s.due("one with a boy", x.fits(0, 0, 0, 3, 0), 32);
        x = told("t4,99;b1,20;");
        Sentences.tell(x, 0, 98, 97, 96, 95, 94);
        s.due("a paddler", x.fits(0, 0, 0, 5, 0), 2);
        Sentences.tell(x, 0, 98, 97, 96, 95, 93);
        s.due("a stout one", x.fits(0, 0, 0, 5, 0), 8);
        s.due("either for four", x.fits(0, 0, 0, 4, 0), 2 + 8);
        Sentences.tell(x, 0, 100);
        s.due("none", x.fits(0, 0, 0, 1, 0), 0);
        x.loose(0);
        Sentences.tell(x, 0, 99, 99, 99);
        s.due("one that does not HOLD: all", x.fits(0, 0, 0, 3, 0), 62);
        s.due("KIND is as it was", x.kind(0), 5);
    }

    private static void pullsAndRopes() {
        s.says("PULLS (1 to 20, bits) of it; ROPES (1 to 20, bits) of it");
        TugLines x = told("t40,99;p9,20;");
        Sentences.tell(x, 0, 97);
        s.due("PULL 20 alone", x.fits(0, 0, 0, 1, 1), 1 << 20);
        Sentences.tell(x, 0, 98);
        s.due("PULLS 10 to 19", x.fits(0, 0, 0, 1, 1), (1 << 20) - (1 << 10));
        x = told("t4,99;p9,20;");
        Sentences.tell(x, 0, 98);
        s.due("PULL 1 alone", x.fits(0, 0, 0, 1, 1), 1 << 1);
        Sentences.tell(x, 0, 90);
        s.due("PULLS 9 to 20", x.fits(0, 0, 0, 1, 1), (1 << 21) - (1 << 9));
        Sentences.tell(x, 0, 99);
        s.due("no PULL", x.fits(0, 0, 0, 1, 1), 0);
        // DRAWS 20 for four HOURS: by each ROPE below it PARTS behind three.
        x = told("t40,99;p20,5;");
        Sentences.tell(x, 0, 97, 95, 93, 91);
        s.due("ROPE 20 alone", x.fits(0, 0, 0, 4, 2), 1 << 20);
        Sentences.tell(x, 0, 97, 95, 93, 93);
        s.due("ROPES 1 to 19", x.fits(0, 0, 0, 4, 2), (1 << 20) - 2);
        s.due("all for three", x.fits(0, 0, 0, 3, 2), ALL_TWENTY);
        x = told("t8,99;p2,20;");
        Sentences.tell(x, 0, 98, 97, 96, 96);
        s.due("ROPE 1 alone", x.fits(0, 0, 0, 4, 2), 1 << 1);
        x.loose(0);
        Sentences.tell(x, 0, 99);
        s.due("one that does not HOLD: all PULLS", x.fits(0, 0, 0, 1, 1), ALL_TWENTY);
        s.due("one that does not HOLD: all ROPES", x.fits(0, 0, 0, 1, 2), ALL_TWENTY);
        s.due("PULL is as it was", x.tug(0, 0), 2);
        s.due("ROPE is as it was", x.tug(0, 1), 20);
    }

    private static void masses(TugLines x, int out, int many, int least) {
        Sentences.tell(x, 0, out);
        s.due("how many by " + out, x.fits(0, 0, 0, 1, 3), many);
        s.due("the least by " + out, x.fits(0, 0, 0, 1, 4), least);
    }

    private static void masses() {
        s.says("MASSES (1 to 60): how many; the least; NONE.");
        // 8 by MASS: 8, 4, 2, 2, 1 .. 1, and 0 from 9 on.
        TugLines x = told("t7,99;p2,20;");
        masses(x, 91, 1, 1);
        masses(x, 95, 1, 2);
        masses(x, 97, 2, 3);
        masses(x, 98, 4, 5);
        masses(x, 99, 52, 9);
        masses(x, 90, 0, NONE);
        // 236 by MASS is 3 for 60 alone, 4 for 48 to 59.
        x = told("t7,99;p20,20;p20,20;p19,20;");
        masses(x, 96, 1, 60);
        masses(x, 95, 12, 48);
        masses(x, 90, 26, 1);
        x = told("t7,1;p9,20;");
        x.hours(1);
        masses(x, 0, 60, 1);
        masses(x, 1, 0, NONE);
        s.due("MASS is as it was", x.count(4), 7);
        s.due("status() behind NONE", x.status(), 0);
    }

    private static void chanceOf(String text, int n, int c, int above, int below) {
        TugLines x = told(text);
        s.due(text + " above, " + n + " HOURS by " + c, x.chance(n, c, 0), above);
        s.due(text + " below, " + n + " HOURS by " + c, x.chance(n, c, 1), below);
    }

    private static void chance() {
        s.says("CHANCE: in each of n HOURS (0 to 8) there is fog by c of 10, each by itself");
        // FORCE 5, by fog 2. In 8 HOURS 40 without fog alone.
        chanceOf("t4,40;p5,20;", 8, 1, 43046721, 100000000);
        chanceOf("t4,40;p5,20;", 8, 9, 1, 100000000);
        chanceOf("t4,40;p5,20;", 8, 0, 1, 1);
        chanceOf("t4,40;p5,20;", 8, 10, 0, 1);
        chanceOf("t4,40;p5,20;", 7, 1, 0, 1);
        chanceOf("t4,41;p5,20;", 8, 0, 0, 1);
        chanceOf("t4,5;p5,20;", 0, 0, 0, 1);
        chanceOf("t4,5;p5,20;", 0, 10, 0, 1);
        chanceOf("t4,5;p5,20;", 1, 3, 7, 10);
        // 5 and 2 is enough: not both with fog.
        chanceOf("t4,7;p5,20;", 2, 3, 91, 100);
        TugLines x = told("t4,5;p5,20;");
        x.hours(1);
        s.due("IN, above", x.chance(0, 5, 0), 1);
        s.due("IN, below", x.chance(0, 5, 1), 1);
        s.due("IN, all fog, above", x.chance(8, 10, 0), 1);
        s.due("IN, all fog, below", x.chance(8, 10, 1), 1);
        s.due("9 HOURS", x.chance(9, 5, 0), BAD);
        s.due("11 of 10", x.chance(1, 11, 0), BAD);
        s.says("fractions, told as two numbers in lowest terms (0 is 0 by 1)");
        int[][] lowest = {{1, 1}, {9, 10}, {4, 5}, {7, 10}, {3, 5}, {1, 2}, {2, 5}, {3, 10}, {1, 5}, {1, 10}, {0, 1}};
        for (int c = 0; c <= 10; c++) chanceOf("t4,5;p5,20;", 1, c, lowest[c][0], lowest[c][1]);
    }

    private static void chanceOfFog() {
        s.says("FORCE is half of what it is (cut) in it (all DRAW, and FRAY, as always): that the THING is IN behind them: a"
            + " fraction");
        chanceOf("t4,1;p1,20;", 8, 10, 0, 1);
        chanceOf("t4,8;p2,20;", 8, 10, 1, 1);
        chanceOf("t4,9;p2,20;", 8, 10, 0, 1);
        chanceOf("t4,8;p3,20;", 8, 10, 1, 1);
        chanceOf("t4,9;p3,20;", 8, 10, 0, 1);
        // Half of all together: 1 and 1 are 1.
        chanceOf("t4,8;p1,20;p1,20;", 8, 10, 1, 1);
        // Half of FORCE, not of SPEED: 3 is 1, and 4 by 3 is 1; half of 12 by 3 were 2.
        chanceOf("t3,8;p3,20;", 8, 10, 1, 1);
        chanceOf("t3,9;p3,20;", 8, 10, 0, 1);
        // FRAYED by what is DRAWN: three HOURS of 2.
        chanceOf("t4,6;p5,4;", 8, 10, 1, 1);
        chanceOf("t4,7;p5,4;", 8, 10, 0, 1);
        // A PIER at 8 of 4 is worn by what is left: fair 4, fog 2. IN in 4 HOURS: the first fair, of the others one fog.
        chanceOf("t4,9;p4,20;q8,4;", 4, 1, 2187, 2500);
        // SPEED, that one with a boy fears, is by half of FORCE: 5 fair in HOUR 0, and he is gone.
        chanceOf("t4,8;p5,20;b3,20;", 2, 5, 1, 2);
    }

    private static void years() {
        s.says("YEARS of n HOURS (0 to 60) by a SEED (X at first): ahead of each X becomes the rest of (X times 16807) by"
            + " 2147483647; the TUG that is the rest of X by how many there are lets go, if X by 5 leaves 0 and it HOLDS, is"
            + " mended, if it does not HOLD (whatever X)");
        // By SEED 5: X is 84035 (5 leaves 0, 2 leaves 1, 3 leaves 2), then 1412376245 (5 leaves 0).
        TugLines x = told("t4,9;p9,20;");
        s.due("no HOURS, how often", x.drawn(0, 5, 0), 0);
        s.due("no HOURS, how many", x.drawn(0, 5, 1), 1);
        s.due("lets go", x.drawn(1, 5, 1), 0);
        s.due("lets go ahead of the HOUR", x.drawn(1, 5, 0), 0);
        s.due("is mended, whatever X", x.drawn(2, 5, 1), 1);
        s.due("is mended ahead of the HOUR", x.drawn(2, 5, 0), 1);
        x = told("t60,99;p1,20;p1,20;p1,20;");
        s.due("TUG 2 of three lets go", x.drawn(1, 5, 1), 2);
        x.loose(2);
        s.due("TUG 2 of three is mended", x.drawn(1, 5, 1), 3);
        // By SEED 1: 16807 (5 leaves 2, 3 leaves 1).
        s.due("TUG 1 of three stays", x.drawn(1, 1, 1), 2);
        x.mend(2);
        x.loose(1);
        s.due("TUG 1 of three is mended", x.drawn(1, 1, 1), 3);
        x.mend(1);
        x.loose(0);
        s.due("TUG 0 of three is not", x.drawn(1, 1, 1), 2);
        // FRAYED stays when nothing befalls it: the third HOUR PARTS.
        x = told("t60,99;p5,4;");
        x.hours(2);
        s.due("PARTS", x.drawn(1, 1, 1), 0);
        s.due("and is mended", x.drawn(2, 1, 1), 1);
        // By letting go FRAYED is 0: mended in the next HOUR, it HOLDS for two more.
        s.due("let go, mended, FRAYED by 1", x.drawn(2, 5, 1), 1);
        s.due("FRAYED by 2", x.drawn(3, 5, 1), 1);
        s.due("FRAYED by 3", x.drawn(4, 5, 1), 0);
    }

    private static void yearsOfASeed() {
        s.says("the THING, if it is IN, is OUT again by the rest of X by 99, and 1; then the HOUR: how often it came IN; how"
            + " many HOLD at last.");
        TugLines x = told("t4,9;p9,20;");
        x.hours(1);
        s.due("IN as they begin, no HOURS", x.drawn(0, 99, 0), 0);
        // 16807 times 99 by 99 leaves 0, and is not by 5.
        s.due("OUT by 1", x.drawn(1, 99, 0), 1);
        for (int seed = 1; seed <= 99; seed++) {
            if (seed % 5 == 0) continue;
            int out = 16807 * seed % 99 + 1;
            s.due("OUT by " + out + " of SEED " + seed, x.drawn(1, seed, 0), out <= 9 ? 1 : 0);
        }
        // Seeds whose first X is 2147483647 or more ahead of the rest, too.
        for (int seed : new int[] {1, 2, 99, 127773, 127774, 500000, 999998, 999999}) {
            for (int n : new int[] {1, 2, 59, 60}) {
                s.due("n " + n + ", SEED " + seed, told("t4,9;p9,20;").drawn(n, seed, 0), oneTugsYears(n, seed, true));
                s.due("n " + n + ", SEED " + seed, told("t4,9;p9,20;").drawn(n, seed, 1), oneTugsYears(n, seed, false));
            }
        }
        s.due("61 HOURS", x.drawn(61, 1, 0), BAD);
        s.due("SEED 0", x.drawn(1, 0, 0), BAD);
        s.due("SEED 1000000", x.drawn(1, 1000000, 0), BAD);
    }

    /** MASS 4, OUT 9, a paddler of 9 that never frays. */
    private static int oneTugsYears(int hours, int seed, boolean howOften) {
        BigInteger x = BigInteger.valueOf(seed);
        int out = 9;
        int often = 0;
        boolean holds = true;
        for (int h = 0; h < hours; h++) {
            x = x.multiply(BigInteger.valueOf(16807)).mod(BigInteger.valueOf(2147483647));
            holds = !holds || x.mod(BigInteger.valueOf(5)).signum() != 0;
            if (out == 0) out = x.mod(BigInteger.valueOf(99)).intValue() + 1;
            if (holds) out = Math.max(0, out - 9);
            if (out == 0) often++;
        }
        return howOften ? often : holds ? 1 : 0;
    }

    private static void images() {
        s.says("An IMAGE (0, 1) is kept of the ESTUARY: 1.");
        TugLines x = told("t4,40;p5,4;b1,20;q30,7;q20,3;");
        x.hours(2);
        s.due("0", x.image(0), 1);
        s.due("ACTS stay", x.count(7), 2);
        x.pull(0, 3);
        x.loose(0);
        x.clear(1);
        s.due("1", x.image(1), 1);
        s.due("2", x.image(2), BAD);
        s.due("-1", x.image(-1), BAD);
        Sentences.read(x, "t60,99;p1,1;l2,2;s3,3;a4,4;b5,5;p6,6;q1,1;q2,2;q3,3;q4,4;");
        s.says("The ESTUARY is as an IMAGE kept it (no ACT can be undone then): 1.");
        x.hours(1);
        s.due("0", x.restore(0), 1);
        seen(x, 2, 2, 2, 4, 30 + 1, 1, 0);
        s.due("undo()", x.undo(), STATE);
        s.due("PULL", x.tug(0, 0), 5);
        s.due("FRAYED", x.tug(0, 2), 2);
        s.due("STANDS, less by 1: of SPEED 5 it took 4 from 35 to 31", x.pier(0, 1), 6);
        s.due("STANDS", x.pier(1, 1), 3);
        s.due("KIND", x.kind(1), 5);
        s.due("1", x.restore(1), 1);
        seen(x, 2, 2, 2, 4, 30 + 1, 0, 0);
        s.due("PULL", x.tug(0, 0), 3);
        s.due("STANDS", x.pier(1, 1), 0);
        // An IMAGE stays as it was, whatever comes behind it, and can be had again; a later one is in its place.
        x.restore(0);
        x.hours(3);
        x.clear(0);
        s.due("0 again", x.restore(0), 1);
        seen(x, 2, 2, 2, 4, 30 + 1, 1, 0);
        s.due("STANDS", x.pier(0, 1), 6);
        x.restore(1);
        x.mend(0);
        s.due("in place of 0", x.image(0), 1);
        x.restore(1);
        seen(x, 2, 2, 2, 4, 31, 0, 0);
        x.restore(0);
        seen(x, 2, 2, 2, 4, 31, 1, 0);
        s.due("none was kept", told("t1,1;p1,1;").restore(0), STATE);
        // An ESTUARY of six TUGS and four PIERS comes back whole.
        x = told("t60,99;p1,1;l2,2;s3,3;a4,4;b5,5;p6,6;q1,1;q2,2;q3,3;q4,4;");
        x.image(1);
        Sentences.read(x, "t1,1;p1,20;");
        s.due("1", x.restore(1), 1);
        seen(x, 6, 4, 0, 60, 99, 63, 0);
        for (int t = 0; t < 6; t++) s.due("ROPE", x.tug(t, 1), t + 1);
        for (int p = 0; p < 4; p++) s.due("its place", x.pier(p, 0), p + 1);
        // ACTS behind it can be undone, up to it.
        x.hours(2);
        s.due("ACTS", x.count(7), 2);
        s.due("undo()", x.undo() + x.undo(), 1);
        s.due("undo()", x.undo(), STATE);
    }

    private static void seen(TugLines x, int... counts) {
        for (int what = 1; what <= 7; what++) s.due("count(" + what + ")", x.count(what), counts[what - 1]);
    }

    private static void kinds() {
        s.says("KINDS of TUGS: 0 TUG; 1 PADDLER, a TUG; 2 LAME, a PADDLER; 3 STOUT, a PADDLER; 4 LAUNCH, a TUG; 5 BOY, a"
            + " LAUNCH.");
        TugLines x = told("t60,99;p9,2;l9,2;s9,2;a9,2;b9,2;");
        int[] is = {1 + 2, 1 + 2 + 4, 1 + 2 + 8, 1 + 16, 1 + 16 + 32};
        for (int t = 0; t < 5; t++) {
            for (int k = 0; k <= 5; k++) {
                boolean so = (is[t] >> k & 1) == 1;
                s.due("as(" + t + ", " + k + ")", x.as(t, k), so ? t : KIND);
                s.due("status()", x.status(), so ? 0 : 3);
            }
        }
        s.says("The KIND of a TUG, as told (1 to 5).");
        for (int t = 0; t < 5; t++) s.due("kind(" + t + ")", x.kind(t), t + 1);
        x.hours(5);
        for (int t = 0; t < 5; t++) s.due("kind(" + t + "), though it HOLDS no more", x.kind(t), t + 1);
    }
}
