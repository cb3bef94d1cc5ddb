/** Promise by promise, with answers worked out by hand from the document. */
public final class PromisesTest {
    private static final int NONE = -1000000, BAD = -1000001, STATE = -1000002, FULL = -1000003;
    private static final int NULL = -1000011, PLACE = -1000012, KIND = -1000013, SIZE = -1000014, STORE = -1000015;

    private static final int MIN = Integer.MIN_VALUE, MAX = Integer.MAX_VALUE;
    private static Check check = new Check("promises");

    public static void main(String[] args) {
        promise1NewObject();
        promise2Row();
        promise3Set();
        promise4Copy();
        promise5Drop();
        promise6Feed();
        promise7Estuary();
        promise7Faults();
        promise7StaysWithAFault();
        promise8Fault();
        promise9Hours();
        promise9Piers();
        promise9Ropes();
        promise9Full();
        promise10Mend();
        promise11Loose();
        promise12Pull();
        promise13Clear();
        promise14Undo();
        promise15Tug();
        promise16Pier();
        promise17Later();
        promise18Arrives();
        promise19Parts();
        promise20Crew();
        promise21Cleared();
        promise22Least();
        promise23Share();
        promise24Fits();
        promise24FitsOfFrayedStoutOnes();
        promise24FitsRefusals();
        promise25Chance();
        promise26Drawn();
        promise27And28Images();
        promise29Kind();
        promise30As();
        promise31And32Asks();
        promise33Count();
        promise34Status();
        check.end();
    }

    private static void due(String call, int got, int want) {
        check.due(call, got, want);
    }

    private static int read(TugLines x, String text) {
        for (int i = 0; i < text.length(); i++) {
            due("feed " + text.charAt(i), x.feed(text.charAt(i)), i + 1);
        }
        return x.estuary();
    }

    private static TugLines told(String text) {
        TugLines x = new TugLines();
        check.that(text + " is read", read(x, text) > 0);
        return x;
    }

    private static void promise1NewObject() {
        TugLines x = new TugLines();
        for (int what = 0; what <= 8; what++) due("new: count(" + what + ")", x.count(what), 0);
        due("new: status", x.status(), 0);
        due("new: fault", x.fault(), 0);
        due("new: trace", x.trace(0), NONE);
        due("new: later ahead of BAD", x.later(-1, 9), STATE);
        due("new: hours ahead of BAD", x.hours(0), STATE);
        due("new: crew ahead of BAD", x.crew(0, 2), STATE);
        due("new: cleared ahead of BAD", x.cleared(0, 2), STATE);
        due("new: chance ahead of BAD", x.chance(9, 11, 2), STATE);
        due("new: drawn ahead of BAD", x.drawn(61, 0, 2), STATE);
        due("new: arrives", x.arrives(), STATE);
        due("new: undo", x.undo(), STATE);
        due("new: image, BAD first", x.image(-1), BAD);
        due("new: image", x.image(1), STATE);
        due("new: restore, BAD first", x.restore(2), BAD);
        due("new: restore", x.restore(1), STATE);
        for (int r = 0; r < 8; r++) due("new: drop", x.drop(r), NULL);
    }

    private static void promise2Row() {
        TugLines x = new TugLines();
        due("row", x.row(0, 0, 40), 40);
        due("row of none", x.row(7, 2, 0), 0);
        due("rows there", x.count(0), 2);
        due("row -1", x.row(-1, 0, 1), BAD);
        due("row 8", x.row(8, 0, 1), BAD);
        due("lane -1", x.row(1, -1, 1), BAD);
        due("lane 3", x.row(1, 3, 1), BAD);
        due("41 items", x.row(1, 0, 41), BAD);
        due("BAD ahead of SIZE", x.row(8, 0, -1), BAD);
        due("BAD ahead of SIZE", x.row(0, 3, -1), BAD);
        due("fewer than none", x.row(0, 0, -1), SIZE);
        due("far fewer", x.row(1, 1, MIN), SIZE);
        due("what is found changes nothing", x.drop(0), 40);
        due("set", x.row(2, 2, 2), 2);
        due("set", x.set(2, 0, 76), 76);
        due("set", x.set(2, 1, 77), 77);
        due("in place of what is there", x.row(2, 2, 3), 3);
        due("items are 0 at first", x.row(3, 2, 3), 3);
        // The zero is seen through copies: fits() reads a ROW's ITEMS.
        due("estuary", read(x, "t1,5;p20,20;"), 1);
        due("IN behind an HOUR: 0, 0, 0", x.fits(0, 2, 0, 3, 4), 1);
    }

    private static void promise3Set() {
        TugLines x = new TugLines();
        x.row(0, 0, 3);
        x.row(1, 1, 3);
        x.row(2, 2, 3);
        due("a byte", x.set(0, 0, 127), 127);
        due("a byte", x.set(0, 0, 128), -128);
        due("a byte", x.set(0, 2, -129), 127);
        due("a byte", x.set(0, 2, 256), 0);
        due("a short", x.set(1, 2, 32767), 32767);
        due("a short", x.set(1, 2, 32768), -32768);
        due("a short", x.set(1, 2, 65536 + 5), 5);
        due("an int", x.set(2, 0, MIN), MIN);
        due("an int", x.set(2, 0, MAX), MAX);
        due("beyond", x.set(2, 3, 1), PLACE);
        due("below", x.set(2, -1, 1), PLACE);
        due("far", x.set(2, MAX, 1), PLACE);
        due("missing", x.set(3, -1, 1), NULL);
        due("no row", x.set(8, 0, 1), BAD);
        due("no row", x.set(-1, 0, 1), BAD);
    }

    /** ITEMS of a ROW of ints are seen by the OUT that they tell: MASS 4, a paddler of 1: 1 nearer each HOUR. */
    private static void promise4Copy() {
        TugLines x = told("t4,40;p1,20;");
        x.row(0, 2, 6);
        for (int i = 0; i < 6; i++) x.set(0, i, 39 - i);
        due("told as it comes", x.fits(0, 0, 0, 6, 1), 2);
        due("forward over itself", x.copy(0, 0, 0, 2, 4), 4);
        due("39 38 39 38 37 36", x.fits(0, 0, 2, 4, 1), 2);
        due("the first two are as they were", x.fits(0, 0, 0, 2, 1), 2);
        due("and not more", x.fits(0, 0, 0, 3, 1), 0);
        due("back over itself", x.copy(0, 2, 0, 1, 4), 4);
        due("39 39 38 37 36 36", x.fits(0, 0, 1, 4, 1), 2);
        x.row(1, 2, 4);
        due("to another", x.copy(0, 1, 1, 0, 4), 4);
        due("is there, too", x.fits(0, 1, 0, 4, 1), 2);
        due("none, at the end", x.copy(0, 6, 1, 4, 0), 0);
        due("beyond the end of a", x.copy(0, 6, 1, 0, 1), PLACE);
        due("beyond the end of b", x.copy(0, 0, 1, 4, 1), PLACE);
        due("beyond both", x.copy(0, 7, 1, 5, 0), PLACE);
        due("i below 0", x.copy(0, -1, 1, 0, 1), PLACE);
        due("j below 0", x.copy(0, 0, 1, -1, 1), PLACE);
        due("n below 0", x.copy(0, 1, 1, 1, -1), PLACE);
        due("sums that pass the greatest int", x.copy(0, MAX, 1, MAX, MAX), PLACE);
        due("sums that pass the greatest int", x.copy(0, 1, 1, 1, MAX), PLACE);
        x.row(2, 1, 4);
        due("two lanes", x.copy(0, -1, 2, 0, 1), STORE);
        due("two lanes, none", x.copy(0, 0, 2, 0, 0), STORE);
        due("missing ahead of lanes", x.copy(0, 0, 3, 0, 1), NULL);
        due("missing", x.copy(3, 0, 0, 0, 1), NULL);
        due("no row", x.copy(8, 0, 3, 0, 1), BAD);
        due("no row", x.copy(3, 0, -1, 0, 1), BAD);
        due("what is found changes nothing", x.fits(0, 1, 0, 4, 1), 2);
    }

    private static void promise5Drop() {
        TugLines x = new TugLines();
        x.row(5, 1, 17);
        due("drop", x.drop(5), 17);
        due("it is missing", x.drop(5), NULL);
        due("rows there", x.count(0), 0);
        due("no row", x.drop(8), BAD);
        due("no row", x.drop(MIN), BAD);
    }

    private static void promise6Feed() {
        TugLines x = new TugLines();
        due("below", x.feed(-1), BAD);
        due("above", x.feed(256), BAD);
        due("least", x.feed(0), 1);
        due("greatest", x.feed(255), 2);
        for (int i = 3; i <= 90; i++) due("feed", x.feed('t'), i);
        due("no room", x.feed('t'), FULL);
        due("BAD ahead of FULL", x.feed(256), BAD);
        due("bytes", x.count(8), 90);
        due("read", x.estuary(), -1000100);
        due("empty then", x.feed('t'), 1);
    }

    private static void promise7Estuary() {
        TugLines x = new TugLines();
        due("the least of all", read(x, "t1,1;p1,1;"), 1);
        due("MASS", x.count(4), 1);
        due("OUT", x.count(5), 1);
        due("the greatest", read(x, "t60,99;p20,20;l20,20;s20,20;a20,20;b20,20;p20,20;q98,20;q98,20;q98,20;q98,20;"), 6);
        due("PIERS", x.count(2), 4);
        due("MASS", x.count(4), 60);
        due("OUT", x.count(5), 99);
        due("all HOLD", x.count(6), 63);
        for (int t = 0; t < 6; t++) due("sort", x.kind(t), t % 5 + 1);
        for (int t = 0; t < 6; t++) due("not FRAYED", x.tug(t, 2), 0);
        due("hours", x.hours(5), 99);
        due("with noughts ahead", read(x, "t07,09;s01,02;q00,03;q5,01;"), 1);
        due("MASS", x.count(4), 7);
        due("OUT", x.count(5), 9);
        due("HOUR", x.count(3), 0);
        due("HOLD", x.count(6), 1);
        due("no ACT", x.count(7), 0);
        due("no ACT", x.undo(), STATE);
        due("PIERS", x.count(2), 2);
        due("place", x.pier(0, 0), 0);
        due("STANDS", x.pier(0, 1), 3);
        due("TUGS", x.count(1), 1);
        due("no second", x.tug(1, 0), BAD);
        due("the tape is empty", x.count(8), 0);
        // Nothing of what was foretold, or stood, is left in one that is read anew.
        due("another", read(x, "t4,60;p5,4;p1,1;q9,9;"), 2);
        x.hours(2);
        x.loose(1);
        x.later(2, 0);
        due("one without PIERS", read(x, "t8,50;p1,20;"), 1);
        int[] want = {0, 1, 0, 0, 8, 50, 1, 0, 0};
        for (int what = 0; what < want.length; what++) due("anew: count(" + what + ")", x.count(what), want[what]);
        due("another", read(x, "t4,60;p5,4;p1,1;q9,9;"), 2);
        x.hours(1);
        x.later(1, 0);
        due("as long", read(x, "t4,60;p5,4;p1,1;"), 2);
        due("HOUR", x.count(3), 0);
        due("FRAYED", x.tug(0, 2), 0);
    }

    private static void faulty(String text, int place, int number) {
        TugLines x = new TugLines();
        due("'" + text + "'", read(x, text), -1000100 - place);
        due("number of '" + text + "'", x.fault(), number);
        due("no estuary by '" + text + "'", x.count(1), 0);
        due("tape behind '" + text + "'", x.count(8), 0);
    }

    private static void promise7Faults() {
        faulty("", 0, 1);
        faulty("t", 1, 1);
        faulty("T1,1;p1,1;", 0, 1);
        faulty("1", 0, 1);
        faulty("t,1;", 1, 1);
        faulty("tt", 1, 1);
        faulty("t1", 2, 1);
        faulty("t1;", 2, 1);
        faulty("t0,", 1, 2);
        faulty("t60,1;p1,1;z", 11, 1);
        faulty("t61,", 1, 2);
        faulty("t00", 1, 2);
        faulty("t100,1;", 1, 1);
        faulty("t001,1;", 1, 1);
        faulty("t0000", 1, 1);
        faulty("t1,100;", 3, 1);
        faulty("t1,0;", 3, 2);
        faulty("t1,99", 5, 1);
        faulty("t1,1,", 4, 1);
        faulty("t1,1;", 5, 1);
        faulty("t1,1;q1,1;", 5, 1);
        faulty("t1,1;t1,1;", 5, 1);
        faulty("t1,1;c1,1;", 5, 1);
        faulty("t1,1; p1,1;", 5, 1);
        faulty("t 1,1;", 1, 1);
        faulty("t1,1;p", 6, 1);
        faulty("t1,1;p0,1;", 6, 2);
        faulty("t1,1;p21,1;", 6, 2);
        faulty("t1,1;p1,0;", 8, 2);
        faulty("t1,1;p1,21;", 8, 2);
        faulty("t1,1;p1,1", 9, 1);
        faulty("t1,1;p1,1;p", 11, 1);
        faulty("t1,1;p1,1;,", 10, 1);
        faulty("t1,1;p1,1;5", 10, 1);
        faulty("t1,1;p1,1;\u00e9", 10, 1);
        faulty("t1,1;p1,1;q99,1;", 11, 2);
        faulty("t1,1;p1,1;q0,0;", 13, 2);
        faulty("t1,1;p1,1;q0,21;", 13, 2);
        faulty("t1,1;p1,1;q1,1;p1,1;", 15, 1);
        faulty("t1,1;p1,1;p1,1;p1,1;p1,1;p1,1;p1,1;p1,1;", 35, 3);
        faulty("t1,1;p1,1;p1,1;p1,1;p1,1;p1,1;p1,1;b", 35, 3);
        faulty("t1,1;p1,1;p1,1;p1,1;p1,1;p1,1;p1,1;z", 35, 1);
        faulty("t1,1;p1,1;q1,1;q1,1;q1,1;q1,1;q1,1;", 30, 3);
        faulty("t1,1;p1,1;q1,1;q1,1;q1,1;q1,1;p1,1;", 30, 1);
        faulty("t1,1;p1,1;p1,1;p1,1;p1,1;p1,1;p1,1;q1,1;p1,1;", 40, 1);
    }

    private static void promise7StaysWithAFault() {
        TugLines x = told("t4,40;p1,20;q3,9;");
        x.hours(3);
        due("a fault", read(x, "t9,9;p2,2;q"), -1000111);
        due("MASS stays", x.count(4), 4);
        due("OUT stays", x.count(5), 37);
        due("HOUR stays", x.count(3), 3);
        due("ACTS stay", x.count(7), 3);
        due("PIERS stay", x.pier(0, 1), 9);
        due("and are undone", x.undo(), 2);
        due("OUT then", x.count(5), 38);
    }

    private static void promise8Fault() {
        TugLines x = new TugLines();
        due("before one", x.fault(), 0);
        read(x, "t61,1;");
        due("the latest", x.fault(), 2);
        read(x, "t1,1;p1,1;");
        due("stays the latest", x.fault(), 2);
        read(x, "x");
        due("the latest", x.fault(), 1);
    }

    private static void promise9Hours() {
        // 4 times FORCE by MASS: 4 * 5 by 7 is 2 (cut).
        TugLines x = told("t7,40;p5,20;");
        due("an HOUR", x.hours(1), 38);
        due("three", x.hours(3), 32);
        due("HOUR", x.count(3), 4);
        due("an ACT each", x.count(7), 4);
        due("none", x.hours(0), BAD);
        due("too many", x.hours(25), BAD);
        due("below", x.hours(MIN), BAD);
        due("to the end", x.hours(24), 0);
        due("IN stays IN", x.hours(1), 0);
        due("24 ACTS are kept", x.count(7), 24);
        // 9 at most, though 4 * 20 by 1 is 80.
        due("the fastest", told("t1,99;p20,20;").hours(1), 90);
        // PULL 9: even HOURS 9, odd ones 4.
        x = told("t4,40;l9,20;");
        due("lame, HOUR 0", x.hours(1), 31);
        due("lame, HOUR 1", x.hours(1), 27);
        due("lame, HOUR 2", x.hours(1), 18);
        // PULL 1, 1 more for each 4 HOURS: 4 of 1, 4 of 2, 4 of 3, 4 of 4, 4 of 5, then 6 and no more.
        x = told("t4,99;s1,20;");
        due("stout, 4 HOURS", x.hours(4), 95);
        due("stout, 8 HOURS", x.hours(4), 87);
        due("stout, 20 HOURS", x.hours(12), 39);
        due("stout, 24 HOURS", x.hours(4), 15);
        due("stout, 26 HOURS", x.hours(2), 3);
        due("what it draws", x.tug(0, 4), 6);
        x = told("t4,40;a3,20;");
        due("a launch, HOUR 0", x.hours(1), 40);
        due("a launch, HOUR 2", x.hours(2), 34);
        due("a launch, HOUR 3", x.hours(1), 34);
        x = told("t4,40;b3,20;");
        due("a boy, HOUR 0", x.hours(1), 40);
        due("a boy, HOUR 1", x.hours(1), 37);
    }

    private static void promise9Piers() {
        // SPEED 5; OUT 10; a PIER at 6 of 9: it comes to 7, 2 left; then 5, then 5.
        TugLines x = told("t4,10;p5,20;q6,9;");
        due("up to the PIER", x.hours(1), 7);
        due("STANDS", x.pier(0, 1), 7);
        due("it is held", x.hours(1), 7);
        due("STANDS", x.pier(0, 1), 2);
        due("it is held yet", x.hours(1), 7);
        due("STANDS no more", x.pier(0, 1), 0);
        due("on", x.hours(1), 2);
        due("IN", x.hours(1), 0);
        // A place that SPEED comes to just is on its way, too; one behind OUT, or at it, is not.
        x = told("t4,10;p5,20;q5,9;q10,9;q11,9;");
        due("to the PIER just", x.hours(1), 6);
        due("STANDS less by 1", x.pier(0, 1), 8);
        due("at OUT: untouched", x.pier(1, 1), 9);
        due("behind: untouched", x.pier(2, 1), 9);
        x = told("t4,10;p5,20;q4,9;");
        due("one short of it", x.hours(1), 5);
        due("untouched", x.pier(0, 1), 9);
        // The farthest out, of two there the first; what is gone is no PIER.
        x = told("t4,10;p5,20;q6,9;q7,3;q7,9;");
        due("the farthest out", x.hours(1), 8);
        due("nearer in: untouched", x.pier(0, 1), 9);
        due("the first of two", x.pier(1, 1), 0);
        due("the second", x.pier(2, 1), 9);
        due("now the second", x.hours(1), 8);
        due("the second", x.pier(2, 1), 4);
        // At 0: it is not IN before that PIER is off.
        x = told("t4,3;p5,20;q0,4;");
        due("not IN", x.hours(1), 1);
        due("STANDS", x.pier(0, 1), 1);
        due("not IN yet", x.hours(1), 1);
        due("IN", x.hours(1), 0);
    }

    private static void promise9Ropes() {
        // DRAWS 5 by a ROPE of 4: 3 HOURS; as strong as it DRAWS: never.
        TugLines x = told("t20,99;p5,4;p5,5;s5,4;");
        x.hours(2);
        due("FRAYED", x.tug(0, 2), 2);
        due("not FRAYED", x.tug(1, 2), 0);
        due("a stout one", x.tug(2, 2), 2);
        x.hours(1);
        due("PARTS", x.tug(0, 3), 0);
        due("FRAYED 0 then", x.tug(0, 2), 0);
        due("DRAWS nothing", x.tug(0, 4), 0);
        x.hours(2);
        due("a stout one with 5", x.tug(2, 3), 1);
        x.hours(1);
        due("a stout one with 6", x.tug(2, 3), 0);
        due("who holds", x.count(6), 2);
        // One with a boy: SPEED 4 is fine, 5 is not, though it DRAWS nothing in HOUR 0.
        x = told("t4,99;p4,20;b1,20;");
        x.hours(1);
        due("SPEED 4", x.count(6), 3);
        due("SPEED 5 in HOUR 1", x.hours(1), 90);
        due("PARTS at once", x.count(6), 1);
        x = told("t4,99;p5,20;b1,20;");
        x.hours(1);
        due("SPEED 5 in HOUR 0", x.count(6), 1);
        x = told("t4,99;b1,20;p5,20;b1,20;");
        x.hours(1);
        due("all that have a boy", x.count(6), 2);
        // It frays as others do: HOURS 1, 2 and 4.
        x = told("t60,99;b5,4;");
        x.hours(4);
        due("FRAYED by 2", x.tug(0, 2), 2);
        x.hours(1);
        due("PARTS", x.count(6), 0);
        // Ropes fray when the THING is IN, too; a boy fears nothing then.
        x = told("t1,1;p5,4;b5,20;");
        due("not by HOUR 0", x.parts(1), 1);
        x.hours(1);
        x.mend(1);
        x.hours(2);
        due("IN, and PARTS", x.count(6), 2);
    }

    private static void promise9Full() {
        TugLines x = told("t60,99;p1,1;");
        for (int i = 0; i < 416; i++) x.hours(24);
        due("HOUR", x.count(3), 9984);
        due("beyond", x.hours(16), FULL);
        due("changes nothing", x.count(3), 9984);
        due("BAD ahead of FULL", x.hours(25), BAD);
        x.hours(15);
        due("the last HOUR", x.count(3), 9999);
        due("beyond", x.hours(1), FULL);
        due("FORETOLD all the same", x.later(60, 0), 99);
        due("undone", x.undo(), 23);
        due("one more", x.hours(1), 99);
    }

    private static void promise10Mend() {
        TugLines x = told("t60,99;p5,4;l5,20;");
        due("HOLDS, not FRAYED", x.mend(0), STATE);
        x.hours(1);
        due("HOLDS, FRAYED", x.mend(0), 3);
        due("FRAYED 0", x.tug(0, 2), 0);
        due("an ACT", x.count(7), 2);
        x.loose(1);
        due("HOLDS again", x.mend(1), 3);
        due("no TUG", x.mend(2), BAD);
        due("no TUG", x.mend(-1), BAD);
        due("refused: no ACT", x.count(7), 4);
        x.hours(3);
        due("parted", x.count(6), 2);
        due("HOLDS again", x.mend(0), 3);
    }

    private static void promise11Loose() {
        TugLines x = told("t60,99;p5,4;l5,20;");
        x.hours(1);
        due("lets go", x.loose(0), 2);
        due("FRAYED 0", x.tug(0, 2), 0);
        due("does not HOLD", x.loose(0), STATE);
        due("the other", x.loose(1), 0);
        due("no TUG", x.loose(2), BAD);
        due("no TUG", x.loose(MIN), BAD);
        due("ACTS", x.count(7), 3);
    }

    private static void promise12Pull() {
        TugLines x = told("t60,99;p5,4;");
        due("20", x.pull(0, 20), 5);
        due("1", x.pull(0, 1), 20);
        due("it is", x.tug(0, 0), 1);
        due("0", x.pull(0, 0), BAD);
        due("21", x.pull(0, 21), BAD);
        due("no TUG", x.pull(1, 1), BAD);
        due("ACTS", x.count(7), 2);
        x.loose(0);
        due("of one that does not HOLD", x.pull(0, 7), 1);
        due("DRAWS nothing", x.tug(0, 4), 0);
    }

    private static void promise13Clear() {
        TugLines x = told("t4,10;p5,20;q6,9;q2,3;");
        due("off", x.clear(0), 9);
        due("STANDS 0", x.pier(0, 1), 0);
        due("it does not STAND", x.clear(0), STATE);
        due("no PIER", x.clear(2), BAD);
        due("no PIER", x.clear(-1), BAD);
        due("an ACT", x.count(7), 1);
        due("on", x.hours(1), 5);
        x.hours(1);
        due("worn away", x.clear(1), STATE);
    }

    private static void promise14Undo() {
        TugLines x = told("t4,40;p5,4;p1,20;q20,7;");
        due("none", x.undo(), STATE);
        x.hours(2);
        x.mend(0);
        x.loose(1);
        x.pull(0, 9);
        x.clear(0);
        due("ACTS", x.count(7), 6);
        due("the pier", x.undo(), 5);
        due("STANDS", x.pier(0, 1), 7);
        due("the pull", x.undo(), 4);
        due("PULL", x.tug(0, 0), 5);
        due("the letting go", x.undo(), 3);
        due("HOLDS", x.count(6), 3);
        due("the mending", x.undo(), 2);
        due("FRAYED", x.tug(0, 2), 2);
        due("an HOUR", x.undo(), 1);
        due("FRAYED", x.tug(0, 2), 1);
        due("OUT", x.count(5), 34);
        due("HOUR", x.count(3), 1);
        due("an HOUR", x.undo(), 0);
        due("OUT", x.count(5), 40);
        due("none", x.undo(), STATE);
        // 24 at most: of 24 and 3 the first 3 are forgotten.
        x = told("t4,99;p1,20;");
        x.hours(24);
        x.hours(3);
        for (int n = 23; n >= 0; n--) due("undo", x.undo(), n);
        due("no more", x.undo(), STATE);
        due("HOUR", x.count(3), 3);
        due("OUT", x.count(5), 96);
    }

    private static void promise15Tug() {
        TugLines x = told("t60,99;p5,4;s7,20;a3,9;");
        int[] want = {7, 20, 0, 1, 7};
        for (int what = 0; what < 5; what++) due("tug(1, " + what + ")", x.tug(1, what), want[what]);
        x.hours(2);
        due("FRAYED", x.tug(0, 2), 2);
        due("a launch in HOUR 2", x.tug(2, 4), 3);
        x.hours(2);
        due("a stout one in HOUR 4", x.tug(1, 4), 8);
        due("PULL is as it was", x.tug(1, 0), 7);
        x.loose(1);
        due("HOLDS not", x.tug(1, 3), 0);
        due("DRAWS nothing", x.tug(1, 4), 0);
        due("no such", x.tug(0, -1), BAD);
        due("no such", x.tug(0, 5), BAD);
        due("no TUG", x.tug(3, 0), BAD);
        due("no TUG", x.tug(-1, 0), BAD);
    }

    private static void promise16Pier() {
        TugLines x = told("t60,99;p5,4;q98,20;q0,1;");
        due("place", x.pier(0, 0), 98);
        due("STANDS", x.pier(0, 1), 20);
        due("place", x.pier(1, 0), 0);
        due("STANDS", x.pier(1, 1), 1);
        due("no such", x.pier(0, 2), BAD);
        due("no such", x.pier(0, -1), BAD);
        due("no PIER", x.pier(2, 0), BAD);
        due("no PIER", x.pier(-1, 0), BAD);
    }

    private static void promise17Later() {
        TugLines x = told("t4,30;p5,4;l2,20;q12,3;");
        // SPEED 7, 6, 7 (the rope PARTS, and the PIER at 12 is worn away by the 3 left), then 1, 2, 1, 2 ..
        int[] outs = {30, 23, 17, 13, 12, 10, 9, 7};
        int[] speeds = {7, 6, 7, 1, 2, 1, 2, 1};
        for (int d = 0; d < outs.length; d++) {
            due("OUT at " + d, x.later(d, 0), outs[d]);
            due("SPEED at " + d, x.later(d, 1), speeds[d]);
            due("who HOLDS at " + d, x.later(d, 2), d < 3 ? 3 : 2);
            due("what STANDS at " + d, x.later(d, 3), 3 > d ? 1 : 0);
        }
        due("60 on", x.later(60, 0), 0);
        due("PIERS of 1 STAND, too", told("t4,30;p1,20;q9,1;q8,2;").later(0, 3), 3);
        due("SPEED of what is IN", x.later(60, 1), 0);
        due("nothing changed", x.count(5), 30);
        due("nothing changed", x.count(3), 0);
        due("nothing changed", x.count(7), 0);
        due("61 on", x.later(61, 0), BAD);
        due("before", x.later(-1, 0), BAD);
        due("no such", x.later(0, 4), BAD);
        due("no such", x.later(0, -1), BAD);
    }

    private static void promise18Arrives() {
        TugLines x = told("t4,60;p1,20;");
        due("60 HOURS", x.arrives(), 60);
        x.hours(24);
        due("fewer then", x.arrives(), 36);
        due("61 are too many", told("t4,61;p1,20;").arrives(), NONE);
        x = told("t1,1;p1,20;");
        due("1", x.arrives(), 1);
        x.hours(1);
        due("IN", x.arrives(), 0);
        due("too heavy", told("t5,1;p1,20;").arrives(), NONE);
    }

    private static void promise19Parts() {
        TugLines x = told("t60,99;p5,4;p5,5;s5,4;a5,4;l5,4;s4,8;");
        due("a paddler", x.parts(0), 3);
        due("strong enough", x.parts(1), NONE);
        due("a stout one", x.parts(2), 6);
        due("a launch: HOURS 1, 2, 4", x.parts(3), 5);
        due("a lame one: HOURS 0, 2, 4", x.parts(4), 5);
        // DRAWS 9 from HOUR 20 on: HOURS 20 to 25.
        due("a stout one, late", x.parts(5), 26);
        x.hours(3);
        due("does not HOLD", x.parts(0), 0);
        due("sooner now", x.parts(2), 3);
        due("no TUG", x.parts(6), BAD);
        due("no TUG", x.parts(-1), BAD);
        due("nothing changed", x.count(3), 3);
        due("a boy by SPEED 5", told("t4,99;p5,20;b1,20;").parts(1), 1);
        due("a boy by SPEED 4 in HOUR 0, 5 in HOUR 1", told("t4,99;p4,20;b1,20;").parts(1), 2);
    }

    private static void promise20Crew() {
        // OUT 12: 4 HOURS by 3 each: the TUG of 3 alone; in 3 HOURS 4 are needed.
        TugLines x = told("t4,12;p1,20;p2,20;p3,20;p1,20;");
        due("in 12", x.crew(12, 0), 1);
        due("in 30", x.crew(30, 0), 1);
        due("the least of four", x.crew(12, 1), 1);
        due("in 6", x.crew(6, 1), 2);
        due("in 4", x.crew(4, 1), 4);
        due("in 3, two", x.crew(3, 0), 2);
        due("the least of two pairs", x.crew(3, 1), 5);
        due("in 2", x.crew(2, 0), 3);
        due("in 2", x.crew(2, 1), 7);
        due("in 1", x.crew(1, 0), NONE);
        due("in 1", x.crew(1, 1), NONE);
        x.loose(2);
        due("only those that HOLD", x.crew(4, 0), 2);
        due("only those that HOLD", x.crew(4, 1), 3);
        due("0 HOURS", x.crew(0, 0), BAD);
        due("31 HOURS", x.crew(31, 0), BAD);
        due("no such", x.crew(1, 2), BAD);
        due("no such", x.crew(1, -1), BAD);
        // Fewer may do what all do not: with the paddler the boy is gone at once.
        x = told("t4,15;p5,4;b4,20;");
        due("behind 6", x.crew(6, 1), 1);
        x = told("t4,16;p5,4;b4,20;");
        due("all do not", x.later(6, 0), 1);
        due("the boy alone: 0 4 4 0 4 4", x.crew(6, 0), 1);
        due("the boy alone: 0 4 4 0 4 4", x.crew(6, 1), 2);
        x = told("t1,1;p1,20;");
        x.hours(1);
        due("IN: none", x.crew(1, 0), 0);
        due("IN: none", x.crew(1, 1), 0);
    }

    private static void promise21Cleared() {
        // SPEED 5. OUT 20, PIERS at 14, 9, 4 of 10, 5, 10.
        TugLines x = told("t4,20;p5,20;q14,10;q9,5;q4,10;");
        due("without PIERS 4 HOURS", x.cleared(4, 0), 3);
        due("all", x.cleared(4, 1), 7);
        due("too soon", x.cleared(3, 0), NONE);
        due("too soon", x.cleared(3, 1), NONE);
        due("time enough", x.cleared(30, 0), 0);
        due("time enough", x.cleared(30, 1), 0);
        x = told("t4,10;p5,20;q5,8;q5,8;");
        // 10 6 (7) 6 (2) 6 (0) 6 (8 to 3) 6 (0) 1 0: 7 HOURS; one off: 10 6 6 6 1 0: 5; both off: 2.
        due("arrives", x.arrives(), 7);
        due("in 7", x.cleared(7, 0), 0);
        due("in 6", x.cleared(6, 0), 1);
        due("the least", x.cleared(6, 1), 1);
        due("in 5", x.cleared(5, 0), 1);
        due("in 4", x.cleared(4, 0), 2);
        due("in 2", x.cleared(2, 1), 3);
        due("in 1", x.cleared(1, 1), NONE);
        x.clear(0);
        due("only those that STAND", x.cleared(4, 0), 1);
        due("only those that STAND", x.cleared(4, 1), 2);
        due("0 HOURS", x.cleared(0, 0), BAD);
        due("31 HOURS", x.cleared(31, 0), BAD);
        due("no such", x.cleared(1, 2), BAD);
        due("no such", x.cleared(1, -1), BAD);
        due("nothing changed", x.pier(1, 1), 8);
    }

    private static void promise22Least() {
        TugLines x = told("t4,30;p2,20;p1,20;");
        due("30 HOURS", x.least(0, 30), 1);
        due("15 HOURS", x.least(0, 15), 1);
        due("10 HOURS", x.least(0, 10), 2);
        due("6 HOURS", x.least(0, 6), 4);
        due("6 HOURS", x.least(1, 6), 3);
        due("4 HOURS", x.least(0, 4), 7);
        due("3 HOURS", x.least(0, 3), NONE);
        due("PULL is as it was", x.tug(0, 0), 2);
        x.loose(0);
        due("of one that does not HOLD", x.least(0, 30), 1);
        due("of one that does not HOLD", x.least(0, 29), NONE);
        due("0 HOURS", x.least(0, 0), BAD);
        due("31 HOURS", x.least(0, 31), BAD);
        due("no TUG", x.least(2, 1), BAD);
        due("no TUG", x.least(-1, 1), BAD);
        // 20 is the greatest: MASS 40, OUT 2, an HOUR: 4 * 20 by 40.
        due("20", told("t40,2;p1,20;").least(0, 1), 20);
        due("21 would do", told("t42,2;p1,20;").least(0, 1), NONE);
    }

    private static void promise23Share() {
        TugLines x = told("t4,30;p3,20;p5,20;p7,20;p2,20;");
        x.loose(1);
        // 3, 7, 2 of 12; 100: 25, 58, 16, 1 is over; 11: 2, 6, 1, 2 are over.
        due("100", x.share(0, 100), 26);
        due("100", x.share(1, 100), 0);
        due("100", x.share(2, 100), 58);
        due("100", x.share(3, 100), 16);
        due("11", x.share(0, 11), 3);
        due("11", x.share(2, 11), 7);
        due("11", x.share(3, 11), 1);
        due("none", x.share(0, 0), 0);
        due("999", x.share(2, 999), 583);
        due("999: 249, 582, 166, 2 over", x.share(3, 999), 166);
        x.pull(0, 20);
        due("by PULL as it is now", x.share(0, 29), 20);
        x.loose(0);
        x.loose(2);
        due("all to one", x.share(3, 57), 57);
        x.loose(3);
        due("nobody HOLDS", x.share(3, 57), 0);
        due("1000", x.share(0, 1000), BAD);
        due("below", x.share(0, -1), BAD);
        due("no TUG", x.share(4, 1), BAD);
        due("no TUG", x.share(-1, 1), BAD);
    }

    private static void tell(TugLines x, int row, int... outs) {
        x.row(row, 2, outs.length);
        for (int i = 0; i < outs.length; i++) x.set(row, i, outs[i]);
    }

    private static void promise24Fits() {
        TugLines x = told("t4,40;p4,20;p1,20;");
        tell(x, 0, 99, 35, 30, 25, 20);
        due("KINDS: a paddler, a stout one (4 HOURS)", x.fits(0, 0, 1, 4, 0), 2 + 8);
        due("KINDS by one HOUR: all but launches", x.fits(0, 0, 1, 1, 0), 2 + 4 + 8);
        due("PULLS", x.fits(0, 0, 1, 4, 1), 1 << 4);
        due("PULLS of the other", x.fits(1, 0, 1, 4, 1), 1 << 1);
        // A ROPE of 1 to 3 frays: gone behind 3 HOURS, and the fourth is 1.
        due("ROPES, 3 HOURS", x.fits(0, 0, 1, 3, 2), (1 << 21) - 2);
        due("ROPES, 4 HOURS", x.fits(0, 0, 1, 4, 2), (1 << 21) - 2 - 2 - 4 - 8);
        // 20 by MASS is 5 for 4 alone.
        due("MASSES", x.fits(0, 0, 1, 4, 3), 1);
        due("MASSES, the least", x.fits(1, 0, 1, 4, 4), 4);
        tell(x, 1, 39, 38);
        // 20 by MASS is 1 for 11 to 20.
        due("MASSES", x.fits(0, 1, 0, 2, 3), 10);
        due("MASSES, the least", x.fits(0, 1, 0, 2, 4), 11);
        tell(x, 2, 41);
        due("no KIND", x.fits(0, 2, 0, 1, 0), 0);
        due("no PULL", x.fits(0, 2, 0, 1, 1), 0);
        due("no ROPE", x.fits(0, 2, 0, 1, 2), 0);
        due("no MASS", x.fits(0, 2, 0, 1, 3), 0);
        due("no MASS", x.fits(0, 2, 0, 1, 4), NONE);
        due("none was found", x.status(), 0);
        // From now on: HOUR 1 is odd.
        x = told("t4,40;l6,20;");
        x.hours(1);
        tell(x, 0, 31, 25);
        due("a lame one in HOUR 1, 2", x.fits(0, 0, 0, 2, 0), 4);
        due("nothing changed", x.count(5), 34);
        due("nothing changed", x.kind(0), 2);
        // FRAYED comes along: a stout one FRAYED 3 with 1 more HOUR is gone, were it a paddler.
        x = told("t4,99;s1,20;s5,4;");
        x.hours(3);
        due("OUT", x.count(5), 81);
        tell(x, 1, 75, 73);
        due("a paddler", x.fits(1, 1, 0, 2, 0), 2);
        // All that there is: HOUR 0 of a launch is nothing; 20 by MASS 40 is 2, 19 is 1; MASS 41 to 60: 80 by it is 1.
        x = told("t40,40;a20,20;");
        tell(x, 0, 40);
        due("KINDS: a launch, one with a boy", x.fits(0, 0, 0, 1, 0), 16 + 32);
        due("all PULLS", x.fits(0, 0, 0, 1, 1), (1 << 21) - 2);
        due("all MASSES", x.fits(0, 0, 0, 1, 3), 60);
        tell(x, 1, 40, 38);
        due("the greatest PULL", x.fits(0, 1, 0, 2, 1), 1 << 20);
        tell(x, 2, 40, 39);
        due("the greatest MASSES", x.fits(0, 2, 0, 2, 3), 20);
        due("the greatest MASSES", x.fits(0, 2, 0, 2, 4), 41);
        x = told("t60,40;p15,20;");
        tell(x, 1, 39);
        // 60 by MASS is 1 for 31 to 60.
        due("MASS 60, too", x.fits(0, 1, 0, 1, 3), 30);
        x = told("t59,40;p15,20;s14,20;");
        tell(x, 1, 39);
        x.pull(1, 15);
        x.pull(0, 15);
        // 236 by MASS is 3 for 60 alone: by 59 it is 4.
        TugLines heavy = told("t60,40;p20,20;p20,20;p19,20;");
        tell(heavy, 0, 37);
        due("MASS 60 alone", heavy.fits(0, 0, 0, 1, 3), 1);
        due("MASS 60 alone", heavy.fits(0, 0, 0, 1, 4), 60);
        // 120 by MASS is 2 up to 60: none is 1.
        due("no MASS", x.fits(0, 1, 0, 1, 4), NONE);
        tell(x, 1, 38);
        due("41 to 60", x.fits(0, 1, 0, 1, 3), 20);
    }

    /** A rope PARTS with 3, whether or not it frays in that HOUR: a stout one's, FRAYED 3 to 5, were it another's. */
    private static void promise24FitsOfFrayedStoutOnes() {
        // SPEED 1 by a PULL of 5 or more, else 0; it draws more than 5 from HOUR 4 on.
        TugLines x = told("t20,99;s5,5;");
        due("HOUR 6", x.hours(6), 93);
        due("FRAYED 2", x.tug(0, 2), 2);
        tell(x, 0, 92, 91, 90);
        due("none is through", x.fits(0, 0, 0, 3, 0), 2 + 8);
        due("HOUR 7", x.hours(1), 92);
        due("FRAYED 3", x.tug(0, 2), 3);
        tell(x, 0, 91, 90);
        due("all but a lame one draw in HOUR 7", x.fits(0, 0, 0, 1, 0), 2 + 8 + 16 + 32);
        due("but the stout one alone in HOUR 8", x.fits(0, 0, 0, 2, 0), 8);
        // A stout one draws PULL and 1 in HOUR 7, PULL and 2 in HOUR 8: SPEED is 1 by 5 to 9.
        due("PULLS of the stout one that it is", x.fits(0, 0, 0, 2, 1), 16 + 32 + 64 + 128);
        tell(x, 0, 91, 91, 91);
        due("gone behind HOUR 7", x.fits(0, 0, 0, 3, 0), 2 + 16 + 32);
        tell(x, 0, 92, 92, 92);
        due("a lame one is gone, though it did not draw 5", x.fits(0, 0, 0, 3, 0), 4);
        due("FRAYED is as it was", x.tug(0, 2), 3);
        due("it HOLDS as it did", x.count(6), 1);
        due("HOUR 8", x.hours(1), 91);
        due("FRAYED 4", x.tug(0, 2), 4);
        tell(x, 0, 90, 90, 90);
        due("with 4 as with 3", x.fits(0, 0, 0, 3, 0), 2 + 4 + 16 + 32);
        due("HOUR 9", x.hours(1), 90);
        due("FRAYED 5", x.tug(0, 2), 5);
        tell(x, 0, 89, 89);
        due("the stout one is through, too, by its sixth", x.fits(0, 0, 0, 2, 0), 2 + 8);
        tell(x, 0, 90, 90);
        due("launches that draw nothing in HOUR 9 are gone", x.fits(0, 0, 0, 2, 0), 4 + 16 + 32);
        // One that frays in that HOUR, too: 4, and gone.
        x = told("t20,99;s6,5;");
        due("FRAYED in HOURS 0 to 2", x.hours(3), 96);
        tell(x, 0, 95, 95, 95);
        due("a paddler", x.fits(0, 0, 0, 3, 0), 2);
        tell(x, 0, 96, 96, 96);
        due("a lame one (3 in HOUR 3), a launch, one with a boy", x.fits(0, 0, 0, 3, 0), 4 + 16 + 32);
        tell(x, 0, 95, 94, 93, 93);
        due("a stout one with 6", x.fits(0, 0, 0, 4, 0), 8);
    }

    private static void promise24FitsRefusals() {
        TugLines x = told("t4,40;p4,20;p1,20;");
        x.row(0, 2, 12);
        due("no TUG", x.fits(2, 0, 0, 1, 0), BAD);
        due("no TUG, for MASSES, too", x.fits(2, 0, 0, 1, 3), BAD);
        due("no TUG, for MASSES, too", x.fits(-1, 0, 0, 1, 4), BAD);
        due("no ROW", x.fits(0, 8, 0, 1, 0), BAD);
        due("no ROW", x.fits(0, -1, 0, 1, 0), BAD);
        due("0 HOURS", x.fits(0, 0, 0, 0, 0), BAD);
        due("13 HOURS", x.fits(0, 0, 0, 13, 0), BAD);
        due("no such", x.fits(0, 0, 0, 1, 5), BAD);
        due("no such", x.fits(0, 0, 0, 1, -1), BAD);
        due("BAD ahead of NULL", x.fits(0, 1, 0, 13, 0), BAD);
        due("missing", x.fits(0, 1, -1, 1, 0), NULL);
        due("12 HOURS", x.fits(0, 0, 0, 12, 3), 0);
        due("beyond", x.fits(0, 0, 1, 12, 3), PLACE);
        due("below", x.fits(0, 0, -1, 1, 3), PLACE);
        due("far", x.fits(0, 0, MAX, 12, 3), PLACE);
    }

    private static void promise25Chance() {
        // FORCE 5, half of it 2: SPEED 5 or 2.
        TugLines x = told("t4,10;p5,20;");
        due("above", x.chance(2, 3, 0), 49);
        due("below", x.chance(2, 3, 1), 100);
        due("in lowest terms, above", x.chance(2, 5, 0), 1);
        due("in lowest terms, below", x.chance(2, 5, 1), 4);
        due("not in 1", x.chance(1, 5, 0), 0);
        due("not in 1", x.chance(1, 5, 1), 1);
        due("sure", x.chance(5, 7, 0), 1);
        due("sure", x.chance(5, 7, 1), 1);
        due("no fog", x.chance(2, 0, 0), 1);
        due("no fog", x.chance(2, 0, 1), 1);
        due("all fog", x.chance(4, 10, 0), 0);
        due("all fog", x.chance(5, 10, 0), 1);
        // In 3: two fair ones at least, since 5 + 2 + 2 is 9: 3 * 0.5 ^ 3 + 0.5 ^ 3.
        due("3 HOURS", x.chance(3, 5, 0), 1);
        due("3 HOURS", x.chance(3, 5, 1), 2);
        due("3 HOURS by 1: 972 of 1000", x.chance(3, 1, 0), 243);
        due("3 HOURS by 1: 972 of 1000", x.chance(3, 1, 1), 250);
        due("0 HOURS", x.chance(0, 5, 0), 0);
        due("0 HOURS", x.chance(0, 5, 1), 1);
        x.hours(2);
        due("IN, 0 HOURS", x.chance(0, 5, 0), 1);
        due("IN, 0 HOURS", x.chance(0, 5, 1), 1);
        due("9 HOURS", x.chance(9, 5, 0), BAD);
        due("below 0", x.chance(-1, 5, 0), BAD);
        due("11 of 10", x.chance(1, 11, 0), BAD);
        due("-1 of 10", x.chance(1, -1, 0), BAD);
        due("no such", x.chance(1, 1, 2), BAD);
        due("no such", x.chance(1, 1, -1), BAD);
        // Fog halves all FORCE, not each: 3 and 3 are 3, not 2.
        x = told("t4,3;p3,20;p3,20;");
        due("half of all", x.chance(1, 10, 0), 1);
        // Ropes fray as always: 5 by 4 is gone behind 3 HOURS of fog, 2 nearer in each.
        x = told("t4,7;p5,4;");
        due("frays in fog, too", x.chance(8, 10, 0), 0);
        // One with a boy fears SPEED as it is: FORCE 5 by half is SPEED 2; the boy pulls 4 in HOURS 1, 2.
        x = told("t4,9;p5,20;b4,20;");
        due("fog, fog, fog: 2, 4, 4", x.chance(3, 10, 0), 1);
        due("longest", told("t4,99;p5,20;").chance(8, 3, 1), 1);
    }

    private static void promise26Drawn() {
        // X by SEED 1: 16807, 282475249, 1622650073, 984943658, 1144108930, 470211272, 101027544.
        TugLines x = told("t4,8;p4,20;p4,20;");
        due("no HOURS", x.drawn(0, 1, 0), 0);
        due("no HOURS", x.drawn(0, 1, 1), 2);
        // TUG 1, by 5 leaves 2: both HOLD, SPEED 8: IN.
        due("1 HOUR", x.drawn(1, 1, 0), 1);
        // 282475249 by 99 leaves 34: OUT 35, less 8 is 27; then 19, 11; 1144108930 leaves 0 by 5, TUG 0 lets go: 7;
        due("2 HOURS", x.drawn(2, 1, 0), 1);
        due("4 HOURS", x.drawn(4, 1, 1), 2);
        due("5 HOURS", x.drawn(5, 1, 1), 1);
        due("5 HOURS", x.drawn(5, 1, 0), 1);
        // 470211272: TUG 0 is mended, 7 less 8: IN again; 101027544: OUT 25, 17.
        due("6 HOURS", x.drawn(6, 1, 1), 2);
        due("6 HOURS", x.drawn(6, 1, 0), 2);
        due("7 HOURS", x.drawn(7, 1, 0), 2);
        due("6 HOURS", x.drawn(6, 1, 0), yearsByHand(6));
        due("7 HOURS", x.drawn(7, 1, 0), yearsByHand(7));
        due("60 HOURS", x.drawn(60, 1, 0), yearsByHand(60));
        int often = 0;
        for (int seed = 1; seed < 400; seed++) often += told1().drawn(60, seed, 0);
        due("how often by one TUG, SEEDS 1 to 399", often, oneTugsYears(399));
        due("61 HOURS", x.drawn(61, 1, 0), BAD);
        due("-1 HOURS", x.drawn(-1, 1, 0), BAD);
        due("SEED 0", x.drawn(1, 0, 0), BAD);
        due("SEED 1000000", x.drawn(1, 1000000, 0), BAD);
        check.that("SEED 999999", x.drawn(60, 999999, 1) >= 0);
        due("no such", x.drawn(1, 1, 2), BAD);
        due("no such", x.drawn(1, 1, -1), BAD);
        due("nothing changed", x.count(5), 8);
    }

    /** MASS 4, OUT 8, two paddlers of 4 whose ropes never fray; SEED 1. */
    private static int yearsByHand(int hours) {
        long seed = 1;
        int out = 8, often = 0;
        boolean[] holds = {true, true};
        for (int h = 0; h < hours; h++) {
            seed = seed * 16807 % 2147483647;
            int t = (int) (seed % 2);
            holds[t] = !holds[t] || seed % 5 != 0;
            if (out == 0) out = (int) (seed % 99) + 1;
            out -= (holds[0] ? 4 : 0) + (holds[1] ? 4 : 0);
            if (out <= 0) {
                out = 0;
                often++;
            }
        }
        return often;
    }

    private static TugLines told1() {
        return told("t4,1;p9,20;");
    }

    /** MASS 4, OUT 1, a paddler of 9, gone when X by 5 leaves 0, back the next HOUR; 60 HOURS of each SEED. */
    private static int oneTugsYears(int seeds) {
        int often = 0;
        for (int seed = 1; seed <= seeds; seed++) {
            long v = seed;
            int out = 1;
            boolean there = true;
            for (int h = 0; h < 60; h++) {
                v = v * 16807 % 2147483647;
                there = !there || v % 5 != 0;
                out = out == 0 ? 1 + (int) (v % 99) : out;
                out = Math.max(0, there ? out - 9 : out);
                often += out == 0 ? 1 : 0;
            }
        }
        return often;
    }

    private static void promise27And28Images() {
        TugLines x = told("t4,40;p5,4;p1,20;q20,7;");
        x.hours(2);
        due("kept", x.image(0), 1);
        x.clear(0);
        x.pull(1, 9);
        x.loose(0);
        due("kept", x.image(1), 1);
        x.hours(3);
        due("another", read(x, "t9,9;s1,1;"), 1);
        due("as it was", x.restore(0), 1);
        due("no ACT", x.count(7), 0);
        due("no ACT", x.undo(), STATE);
        due("TUGS", x.count(1), 2);
        due("MASS", x.count(4), 4);
        due("HOUR", x.count(3), 2);
        due("OUT", x.count(5), 28);
        due("FRAYED", x.tug(0, 2), 2);
        due("STANDS", x.pier(0, 1), 7);
        due("on", x.hours(1), 22);
        due("the IMAGE stays", x.restore(0), 1);
        due("no ACT", x.count(7), 0);
        due("OUT", x.count(5), 28);
        due("the other", x.restore(1), 1);
        due("STANDS", x.pier(0, 1), 0);
        due("PULL", x.tug(1, 0), 9);
        due("HOLD", x.count(6), 2);
        x = told("t4,40;p5,4;");
        due("none was kept", x.restore(0), STATE);
        due("1", x.image(1), 1);
        due("none was kept", x.restore(0), STATE);
        due("no such", x.image(2), BAD);
        due("no such", x.image(-1), BAD);
        due("no such", x.restore(2), BAD);
        due("no such", x.restore(-1), BAD);
        x.hours(1);
        due("refused: ACTS stay", x.restore(0), STATE);
        due("refused: ACTS stay", x.count(7), 1);
        due("kept anew", x.image(1), 1);
        due("ACTS stay with an IMAGE", x.count(7), 1);
        x.hours(1);
        x.restore(1);
        due("the later one", x.count(5), 35);
    }

    private static final String ALL = "t60,99;p9,2;l9,2;s9,2;a9,2;b9,2;";

    private static void promise29Kind() {
        TugLines x = told(ALL);
        for (int t = 0; t < 5; t++) due("kind", x.kind(t), t + 1);
        due("no TUG", x.kind(5), BAD);
        due("no TUG", x.kind(-1), BAD);
    }

    private static void promise30As() {
        TugLines x = told(ALL);
        String[] is = {"01", "012", "013", "04", "045"};
        for (int t = 0; t < 5; t++) {
            for (int k = 0; k <= 5; k++) {
                boolean so = is[t].indexOf('0' + k) >= 0;
                due("as(" + t + ", " + k + ")", x.as(t, k), so ? t : KIND);
                due("status", x.status(), so ? 0 : 3);
            }
        }
        due("no KIND", x.as(0, 6), BAD);
        due("no KIND", x.as(0, -1), BAD);
        due("no TUG", x.as(5, 0), BAD);
        due("no TUG", x.as(-1, 0), BAD);
    }

    private static void asked(TugLines x, int tug, int what, int want, int... bodies) {
        due("ask(" + tug + ", " + what + ")", x.ask(tug, what), want);
        for (int i = 0; i < bodies.length; i++) due("its trace " + i, x.trace(i), bodies[i]);
        due("the end of its trace", x.trace(bodies.length), NONE);
    }

    private static void promise31And32Asks() {
        TugLines x = told(ALL);
        x.hours(2);
        // FRAYED in HOURS 0 and 1 (the half that a lame one DRAWS, 4, is more than 2, too); of launches in HOUR 1.
        int[] frayed = {2, 2, 2, 1, 1};
        for (int t = 0; t < 5; t++) due("FRAYED", x.tug(t, 2), frayed[t]);
        asked(x, 0, 0, 9 + 0 + 2, 11, 10, 21, 20);
        asked(x, 0, 1, 0 + 2, 21, 20);
        asked(x, 1, 0, -(9 + 2 * (1 + 2)), 12, 11, 10, 24, 21, 20);
        asked(x, 1, 1, 2 * (1 + 2), 24, 21, 20);
        asked(x, 2, 0, 9 + 2 + 2 - 1000, 11, 10, 22, 21, 20);
        asked(x, 2, 1, 2 + 2 - 1000, 22, 21, 20);
        asked(x, 3, 0, 9 - 100, 13, 10);
        asked(x, 3, 1, 3 - (9 - 100), 23, 20, 13, 10);
        asked(x, 4, 0, 2 * (9 - 100), 14, 13, 10);
        asked(x, 4, 1, 4 - 2 * (9 - 100), 23, 20, 14, 13, 10);
        due("no TUG", x.ask(5, 0), BAD);
        due("no TUG", x.ask(-1, 0), BAD);
        due("no ASK", x.ask(0, 2), BAD);
        due("no ASK", x.ask(0, -1), BAD);
        due("refused: THE TRACE stays", x.trace(4), 10);
        due("before it", x.trace(-1), NONE);
        due("far behind it", x.trace(16), NONE);
        due("far behind it", x.trace(MAX), NONE);
    }

    private static void promise33Count() {
        TugLines x = told("t7,40;p5,20;p5,20;p5,20;q3,3;q2,2;");
        x.row(3, 0, 0);
        x.row(4, 0, 5);
        x.row(4, 1, 6);
        x.hours(2);
        x.loose(1);
        x.feed('t');
        int[] want = {2, 3, 2, 2, 7, 24, 5, 3, 1};
        for (int what = 0; what < want.length; what++) due("count(" + what + ")", x.count(what), want[what]);
        due("no such", x.count(9), BAD);
        due("no such", x.count(-1), BAD);
    }

    private static void promise34Status() {
        TugLines x = told(ALL);
        due("none", x.status(), 0);
        x.set(0, 0, 0);
        due("NULL", x.status(), 1);
        x.set(8, 0, 0);
        due("BAD: as it was", x.status(), 1);
        x.hours(1);
        x.mend(9);
        x.ask(0, 0);
        due("calls without a ROW: as it was", x.status(), 1);
        x.row(0, 0, 3);
        due("had none", x.status(), 0);
        x.set(0, 3, 0);
        due("PLACE", x.status(), 2);
        x.set(0, 2, 0);
        due("had none", x.status(), 0);
        x.row(1, 0, -1);
        due("SIZE", x.status(), 4);
        x.row(1, 1, 3);
        x.copy(0, 0, 1, 0, 1);
        due("STORE", x.status(), 5);
        x.copy(0, 0, 0, 0, 1);
        due("had none", x.status(), 0);
        x.as(0, 5);
        due("KIND", x.status(), 3);
        x.as(0, 6);
        due("BAD: as it was", x.status(), 3);
        x.as(0, 0);
        due("had none", x.status(), 0);
        x.fits(0, 7, 0, 1, 0);
        due("NULL", x.status(), 1);
        x.fits(0, 7, 0, 13, 0);
        due("BAD: as it was", x.status(), 1);
        x.fits(0, 0, 0, 1, 0);
        due("had none", x.status(), 0);
        x.fits(0, 0, 3, 1, 0);
        due("PLACE", x.status(), 2);
        x.drop(1);
        due("had none", x.status(), 0);
        x.drop(1);
        due("NULL", x.status(), 1);
    }
}
