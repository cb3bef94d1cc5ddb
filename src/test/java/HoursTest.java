/** Section 2 of the document, and the promises 9 to 16: what is DRAWN, an HOUR, ACTS. */
public final class HoursTest {
    private static final int BAD = -1000001, STATE = -1000002, FULL = -1000003;

    private static final Sentences s = new Sentences("hours");

    public static void main(String[] args) {
        paddlersAndLameOnes();
        stoutOnes();
        launches();
        nothingIsDrawn();
        speed();
        isIn();
        nearer();
        piersOnTheWay();
        piersTheFarthest();
        piersWorn();
        frays();
        parts();
        boys();
        asItBegins();
        hours();
        lastHour();
        mended();
        letGo();
        otherPulls();
        takenOff();
        actsKept();
        eachActIsUndone();
        ofATug();
        ofAPier();
        s.end();
    }

    private static TugLines told(String text) {
        return Sentences.told(text);
    }

    /** What TUG 0 of a text DRAWS in the HOURS from 0 on. */
    private static void draws(String text, int... wants) {
        TugLines x = told(text);
        for (int h = 0; h < wants.length; h++) {
            s.due(text + " in HOUR " + h, x.tug(0, 4), wants[h]);
            x.hours(1);
        }
    }

    private static void paddlersAndLameOnes() {
        s.says("a paddler its PULL; a lame one its PULL, in HOURS that are odd half of it (cut)");
        draws("t60,99;p1,20;", 1, 1, 1, 1);
        draws("t60,99;p20,20;", 20, 20, 20, 20);
        draws("t60,99;l1,20;", 1, 0, 1, 0, 1);
        draws("t60,99;l2,20;", 2, 1, 2, 1);
        draws("t60,99;l19,20;", 19, 9, 19, 9);
        draws("t60,99;l20,20;", 20, 10, 20, 10);
    }

    private static void stoutOnes() {
        s.says("a stout one its PULL, and 1 for each 4 HOURS that went by (cut; 5 at most)");
        draws("t60,99;s15,20;", 15, 15, 15, 15, 16, 16, 16, 16, 17, 17, 17, 17, 18, 18, 18, 18, 19, 19, 19, 19, 20, 20, 20,
            20, 20, 20, 20, 20, 20);
        TugLines x = told("t60,99;s15,20;");
        for (int i = 0; i < 20; i++) x.hours(24);
        s.due("in HOUR 480", x.tug(0, 4), 20);
        // More than the greatest PULL: 20 and 1.
        x = told("t60,99;s20,20;");
        x.hours(3);
        s.due("in HOUR 3", x.tug(0, 4), 20);
        x.hours(1);
        s.due("in HOUR 4", x.tug(0, 4), 21);
    }

    private static void launches() {
        s.says("a launch, one with a boy its PULL, but nothing in HOURS that leave 0 by 3");
        draws("t60,99;a7,20;", 0, 7, 7, 0, 7, 7, 0, 7);
        draws("t60,99;b7,20;", 0, 7, 7, 0, 7, 7, 0, 7);
        draws("t60,99;a20,20;", 0, 20, 20, 0);
        draws("t60,99;b1,20;", 0, 1, 1, 0);
    }

    private static void nothingIsDrawn() {
        s.says("One that does not HOLD DRAWS nothing.");
        TugLines x = told("t4,99;p1,20;l2,20;s3,20;a4,20;b5,20;");
        x.hours(1);
        for (int t = 0; t < 5; t++) s.that("TUG " + t + " DRAWS", x.tug(t, 4) > 0 || t == 4);
        for (int t = 0; t < 4; t++) x.loose(t);
        s.due("the boy PARTED in HOUR 0", x.count(6), 0);
        for (int t = 0; t < 5; t++) s.due("TUG " + t, x.tug(t, 4), 0);
        s.due("SPEED", x.later(0, 1), 0);
        s.due("nothing is nearer", x.hours(24), 93);
    }

    private static void speedOf(String text, int want) {
        s.due("SPEED of " + text, told(text).later(0, 1), want);
    }

    private static void speed() {
        s.says("FORCE is what all DRAW, together; SPEED four times FORCE by MASS (cut, 9 at most)");
        speedOf("t4,99;p8,20;", 8);
        speedOf("t4,99;p9,20;", 9);
        speedOf("t4,99;p10,20;", 9);
        speedOf("t1,99;p1,20;", 4);
        speedOf("t1,99;p2,20;", 8);
        speedOf("t1,99;p3,20;", 9);
        speedOf("t1,99;p20,20;p20,20;p20,20;p20,20;p20,20;p20,20;", 9);
        speedOf("t60,99;p20,20;p20,20;p20,20;p20,20;p20,20;p20,20;", 8);
        speedOf("t60,99;p15,20;", 1);
        speedOf("t60,99;p14,20;", 0);
        speedOf("t5,99;p1,20;", 0);
        speedOf("t5,99;p4,20;", 3);
        // Together, ahead of the cut: 4 times 2 by 8, not 0 and 0.
        speedOf("t8,99;p1,20;p1,20;", 1);
        speedOf("t8,99;p1,20;p1,20;p1,20;", 1);
        speedOf("t8,99;p1,20;p1,20;p1,20;p1,20;", 2);
        speedOf("t4,99;p1,20;l2,20;s3,20;a20,20;b20,20;", 6);
    }

    private static void isIn() {
        s.says("0, if the THING is IN (OUT is 0)");
        TugLines x = told("t4,1;p9,20;b1,20;");
        s.due("not IN yet", x.later(0, 1), 9);
        s.due("IN", x.hours(1), 0);
        s.due("SPEED", x.later(0, 1), 0);
        s.due("it DRAWS all the same", x.tug(0, 4), 9);
        x.mend(1);
        s.due("IN stays IN", x.hours(5), 0);
        s.due("no boy PARTS by that", x.count(6), 3);
    }

    /** OUT behind an HOUR of a text. */
    private static void nearerBy(String text, int want) {
        s.due(text, told(text).hours(1), want);
    }

    private static void nearer() {
        s.says("The THING comes SPEED nearer (OUT less by it, 0 at least)");
        nearerBy("t4,99;p9,20;", 90);
        nearerBy("t4,10;p9,20;", 1);
        nearerBy("t4,9;p9,20;", 0);
        nearerBy("t4,8;p9,20;", 0);
        nearerBy("t4,1;p9,20;", 0);
        nearerBy("t4,1;p1,20;", 0);
        nearerBy("t4,2;p1,20;", 1);
        nearerBy("t5,2;p1,20;", 2);
    }

    private static void pierOnTheWay(String text, int out, int stands) {
        TugLines x = told(text);
        s.due("OUT of " + text, x.hours(1), out);
        s.due("STANDS of " + text, x.pier(0, 1), stands);
    }

    private static void piersOnTheWay() {
        s.says("but not to the place of a PIER that STANDS (STANDS above 0), or beyond it: of those that are on its way"
            + " (their places less than OUT, and OUT less SPEED or more)");
        // SPEED 5, OUT 20: places 15 to 19.
        pierOnTheWay("t4,20;p5,20;q98,20;", 15, 20);
        pierOnTheWay("t4,20;p5,20;q21,20;", 15, 20);
        pierOnTheWay("t4,20;p5,20;q20,20;", 15, 20);
        pierOnTheWay("t4,20;p5,20;q19,20;", 20, 15);
        pierOnTheWay("t4,20;p5,20;q18,20;", 19, 16);
        pierOnTheWay("t4,20;p5,20;q16,20;", 17, 18);
        pierOnTheWay("t4,20;p5,20;q15,20;", 16, 19);
        pierOnTheWay("t4,20;p5,20;q14,20;", 15, 20);
        pierOnTheWay("t4,20;p5,20;q0,20;", 15, 20);
        // No SPEED: none is on its way.
        pierOnTheWay("t60,20;p5,20;q19,20;", 20, 20);
        // At 0: on its way from 5 on, and it cannot be IN.
        pierOnTheWay("t4,6;p5,20;q0,20;", 1, 20);
        pierOnTheWay("t4,5;p5,20;q0,20;", 1, 19);
        pierOnTheWay("t4,3;p5,20;q0,20;", 1, 17);
        pierOnTheWay("t4,1;p5,20;q0,20;", 1, 15);
        // One that does not STAND is none.
        TugLines x = told("t4,20;p5,20;q18,20;");
        x.clear(0);
        s.due("taken off", x.hours(1), 15);
        s.due("STANDS 0", x.pier(0, 1), 0);
    }

    private static void piersTheFarthest() {
        s.says("by the farthest out (of several there the first) it comes to 1 more than that place");
        TugLines x = told("t4,20;p5,20;q15,9;q17,9;q16,9;q98,9;");
        s.due("to the second", x.hours(1), 18);
        int[] stands = {9, 6, 9, 9};
        for (int p = 0; p < 4; p++) s.due("STANDS of " + p, x.pier(p, 1), stands[p]);
        x = told("t4,20;p5,20;q17,9;q17,8;q17,7;q16,6;");
        s.due("to the first of three", x.hours(1), 18);
        int[] three = {6, 8, 7, 6};
        for (int p = 0; p < 4; p++) s.due("STANDS of " + p, x.pier(p, 1), three[p]);
        // 6, then 1, then 0; the second from then on.
        x.hours(2);
        s.due("the first is worn away", x.pier(0, 1), 0);
        s.due("the second not yet", x.pier(1, 1), 8);
        s.due("held by the second", x.hours(1), 18);
        s.due("the second", x.pier(1, 1), 3);
        s.due("the third", x.pier(2, 1), 7);
        // The last of them is the farthest out, and the first does not STAND.
        x = told("t4,20;p5,20;q19,9;q16,9;q18,9;");
        x.clear(0);
        s.due("to the third", x.hours(1), 19);
        s.due("the third", x.pier(2, 1), 5);
        s.due("the second", x.pier(1, 1), 9);
    }

    private static void piersWorn() {
        s.says("STANDS of that PIER is less by what is left of SPEED then (0 at least)");
        // SPEED 5; at 19 all of it is left, at 17 it is 3, at 15 it is 1.
        pierOnTheWay("t4,20;p5,20;q19,6;", 20, 1);
        pierOnTheWay("t4,20;p5,20;q19,5;", 20, 0);
        pierOnTheWay("t4,20;p5,20;q19,4;", 20, 0);
        pierOnTheWay("t4,20;p5,20;q17,4;", 18, 1);
        pierOnTheWay("t4,20;p5,20;q17,3;", 18, 0);
        pierOnTheWay("t4,20;p5,20;q17,1;", 18, 0);
        pierOnTheWay("t4,20;p5,20;q15,1;", 16, 0);
        pierOnTheWay("t4,20;p5,20;q15,2;", 16, 1);
        // Left of SPEED 9 (at most), not of more.
        pierOnTheWay("t1,20;p20,20;q19,20;", 20, 11);
        // What wore it away does not go on in that HOUR.
        TugLines x = told("t4,20;p5,20;q19,1;");
        s.due("held in that HOUR", x.hours(1), 20);
        s.due("on in the next", x.hours(1), 15);
    }

    private static void frays() {
        s.says("Each TUG that HOLDS and DRAWS more than ROPE has FRAYED 1 more");
        TugLines x = told("t60,99;p5,4;p5,5;p5,6;l5,4;l9,3;a5,4;");
        int[][] frayed = {{1, 0, 0, 1, 1, 0}, {2, 0, 0, 1, 2, 1}};
        for (int h = 0; h < 2; h++) {
            x.hours(1);
            for (int t = 0; t < 6; t++) s.due("TUG " + t + " behind HOUR " + h, x.tug(t, 2), frayed[h][t]);
        }
        // PULL is not what counts: 20 and 1 by a ROPE of 20, from HOUR 4 on.
        x = told("t60,99;s20,20;");
        x.hours(4);
        s.due("a stout one behind HOUR 3", x.tug(0, 2), 0);
        x.hours(1);
        s.due("a stout one behind HOUR 4", x.tug(0, 2), 1);
        // One that does not HOLD does not fray.
        x = told("t60,99;p5,4;");
        x.loose(0);
        x.hours(5);
        s.due("let go", x.tug(0, 2), 0);
        // FRAYED stays while it does not fray.
        x = told("t60,99;p5,4;");
        x.hours(2);
        x.pull(0, 4);
        x.hours(9);
        s.due("2 for long", x.tug(0, 2), 2);
        s.due("HOLDS for long", x.count(6), 1);
        x.pull(0, 5);
        x.hours(1);
        s.due("and PARTS by one more", x.count(6), 0);
        // As it does, too, when the THING is IN, or does not come nearer.
        x = told("t60,1;p5,4;p20,20;");
        x.hours(1);
        s.due("IN", x.count(5), 0);
        x.hours(2);
        s.due("PARTED when IN", x.count(6), 2);
    }

    /** Behind how many HOURS TUG 0 HOLDS no more, asked HOUR by HOUR; FRAYED then is 0. */
    private static void partsBehind(String text, int want) {
        TugLines x = told(text);
        for (int h = 1; h < want; h++) {
            x.hours(1);
            s.due(text + " HOLDS behind " + h, x.tug(0, 3), 1);
        }
        x.hours(1);
        s.due(text + " HOLDS behind " + want, x.tug(0, 3), 0);
        s.due(text + " FRAYED behind " + want, x.tug(0, 2), 0);
    }

    private static void parts() {
        s.says("with 3 its rope PARTS (it HOLDS no more, FRAYED 0), of a stout one with 6");
        partsBehind("t60,99;p5,4;", 3);
        partsBehind("t60,99;l9,3;", 3);
        partsBehind("t60,99;l9,8;", 5);
        partsBehind("t60,99;a5,4;", 5);
        partsBehind("t60,99;b5,4;", 5);
        partsBehind("t60,99;s5,4;", 6);
        partsBehind("t60,99;s5,5;", 10);
        partsBehind("t60,99;s5,9;", 26);
        TugLines x = told("t60,99;s5,10;");
        x.hours(24);
        x.hours(24);
        s.due("never", x.tug(0, 3), 1);
        s.due("never FRAYED", x.tug(0, 2), 0);
        // With 3 from other HOURS, when it does not fray: taken as a launch it PARTS in HOUR 7, but DRAWS in it.
        x = told("t20,99;s5,5;");
        x.hours(7);
        Sentences.tell(x, 0, 91, 91);
        s.due("KINDS by which it PARTS in HOUR 7", x.fits(0, 0, 0, 2, 0), 2 + 16 + 32);
    }

    private static void boys() {
        s.says("one with a boy that HOLDS PARTS at once, too, if SPEED is 5 or more");
        TugLines x = told("t4,99;p4,20;b1,20;");
        x.hours(1);
        s.due("SPEED 4", x.count(6), 3);
        x.hours(1);
        s.due("SPEED 5, by itself", x.count(6), 1);
        s.due("SPEED 5, OUT", x.count(5), 90);
        x = told("t4,99;p5,20;b1,20;a1,20;l1,20;s1,20;b1,20;");
        x.hours(1);
        s.due("SPEED 7 in HOUR 0: boys alone", x.count(6), 1 + 4 + 8 + 16);
        x = told("t4,99;p9,20;b5,4;");
        x.pull(0, 1);
        x.loose(0);
        x.mend(0);
        x.hours(1);
        s.due("SPEED 1", x.count(6), 3);
        x.pull(1, 1);
        x.hours(1);
        s.due("SPEED 2", x.count(6), 3);
        // FRAYED 0 behind it.
        x = told("t20,99;b5,4;p9,20;");
        x.hours(2);
        s.due("FRAYED", x.tug(0, 2), 1);
        x.pull(1, 20);
        x.hours(1);
        s.due("SPEED 5", x.count(6), 2);
        s.due("FRAYED 0", x.tug(0, 2), 0);
        // By SPEED, though a PIER holds the THING where it is.
        x = told("t4,99;p5,20;b1,20;q98,20;");
        s.due("held by a PIER", x.hours(1), 99);
        s.due("SPEED 5 all the same", x.count(6), 1);
    }

    private static void asItBegins() {
        s.says("An HOUR, all by what there is as it begins.");
        // A rope that PARTS in an HOUR has DRAWN in it.
        TugLines x = told("t4,99;p5,4;");
        s.due("three HOURS of 5", x.hours(3), 84);
        s.due("then none", x.hours(1), 84);
        x = told("t4,99;p5,20;b3,20;");
        s.due("5, and the boy goes", x.hours(1), 94);
        x.mend(1);
        s.due("8, and the boy goes again", x.hours(1), 86);
        s.due("the boy is gone", x.count(6), 1);
        // HOUR as it begins: 0 is even, and leaves 0 by 3.
        s.due("a lame one in HOUR 0", told("t4,99;l8,20;").hours(1), 91);
        s.due("a launch in HOUR 0", told("t4,99;a8,20;").hours(1), 99);
        // Ropes fray by OUT as it begins, too: SPEED is not 0 in the HOUR in which it comes IN.
        x = told("t4,5;p5,20;b1,20;");
        s.due("IN", x.hours(1), 0);
        s.due("by SPEED 5", x.count(6), 1);
        s.says("HOUR is 1 more.");
        x = told("t60,99;p1,20;");
        for (int h = 1; h <= 30; h++) {
            x.hours(1);
            s.due("HOUR", x.count(3), h);
        }
    }

    private static void hours() {
        s.says("n HOURS (1 to 24), an ACT each: OUT then.");
        TugLines x = told("t4,99;p1,20;");
        s.due("1", x.hours(1), 98);
        s.due("ACTS", x.count(7), 1);
        s.due("HOUR", x.count(3), 1);
        s.due("2", x.hours(2), 96);
        s.due("ACTS", x.count(7), 3);
        s.due("24", x.hours(24), 72);
        s.due("HOUR", x.count(3), 27);
        s.due("ACTS", x.count(7), 24);
        s.due("25", x.hours(25), BAD);
        s.due("0", x.hours(0), BAD);
        x = told("t4,99;p4,20;");
        s.due("24 HOURS, some of them IN", x.hours(24), 3);
        s.due("IN in the midst", x.hours(24), 0);
    }

    private static void lastHour() {
        s.says("FULL: beyond HOUR 9999.");
        TugLines x = new TugLines();
        Twins.NEAR_THE_END.accept(x);
        s.due("HOUR", x.count(3), 9984);
        s.due("16 more", x.hours(16), FULL);
        s.due("HOUR", x.count(3), 9984);
        s.due("15 more", x.hours(15), 99);
        s.due("HOUR", x.count(3), 9999);
        s.due("1 more", x.hours(1), FULL);
        s.due("24 more", x.hours(24), FULL);
        s.due("other ACTS", x.pull(0, 2), 1);
        s.due("what is FORETOLD", x.later(60, 2), 0);
        s.due("PARTS", x.parts(0), 3);
        s.due("one HOUR is undone", x.undo() + x.undo(), 23 + 22);
        s.due("HOUR", x.count(3), 9998);
        s.due("1 more", x.hours(1), 99);
        s.due("HOUR", x.count(3), 9999);
    }

    private static void mended() {
        s.says("a rope is mended (its TUG HOLDS again, FRAYED 0)");
        TugLines x = told("t60,99;p5,4;p5,20;");
        s.due("not FRAYED", x.mend(0), STATE);
        x.hours(1);
        s.due("FRAYED 1", x.mend(0), 3);
        s.due("FRAYED 0", x.tug(0, 2), 0);
        s.due("not FRAYED again", x.mend(0), STATE);
        x.hours(2);
        s.due("FRAYED 2", x.mend(0), 3);
        x.hours(3);
        s.due("PARTED", x.count(6), 2);
        s.due("HOLDS again", x.mend(0), 3);
        s.due("HOLDS again", x.tug(0, 3), 1);
        s.due("FRAYED 0", x.tug(0, 2), 0);
        s.due("DRAWS again", x.tug(0, 4), 5);
        x.loose(1);
        s.due("let go, and HOLDS again", x.mend(1), 3);
        s.due("three HOURS anew", x.parts(0), 3);
    }

    private static void letGo() {
        s.says("a TUG lets go (it HOLDS no more, FRAYED 0)");
        TugLines x = told("t60,99;p5,4;p5,20;p5,20;p5,20;p5,20;p5,20;");
        x.hours(2);
        s.due("FRAYED", x.tug(0, 2), 2);
        int holding = 63;
        for (int t = 0; t < 6; t++) {
            holding -= 1 << t;
            s.due("who HOLDS", x.loose(t), holding);
            s.due("FRAYED", x.tug(t, 2), 0);
            s.due("HOLDS", x.tug(t, 3), 0);
            s.due("once", x.loose(t), STATE);
        }
        s.due("ACTS", x.count(7), 8);
    }

    private static void otherPulls() {
        s.says("PULL of a TUG is v (1 to 20): what it was.");
        TugLines x = told("t60,99;p5,4;a7,20;");
        s.due("1", x.pull(0, 1), 5);
        s.due("20", x.pull(0, 20), 1);
        s.due("0", x.pull(0, 0), BAD);
        s.due("21", x.pull(0, 21), BAD);
        s.due("PULL", x.tug(0, 0), 20);
        s.due("the same again", x.pull(0, 20), 20);
        s.due("is an ACT, too", x.count(7), 3);
        s.due("the other's stays", x.tug(1, 0), 7);
        s.due("a launch, though it DRAWS nothing now", x.pull(1, 3), 7);
        x.hours(2);
        s.due("FRAYED stays", x.tug(0, 2), 2);
        x.pull(0, 1);
        s.due("FRAYED stays", x.tug(0, 2), 2);
        x.loose(0);
        s.due("of one that does not HOLD", x.pull(0, 9), 1);
        s.due("it does not HOLD by that", x.tug(0, 3), 0);
        s.says("PULL of a TUG is another; a PIER is taken off (STANDS 0).");
        x = told("t60,99;p5,4;q98,7;");
        s.due("PULL", x.pull(0, 9), 5);
        s.due("a PIER", x.clear(0), 7);
        s.due("ACTS", x.count(7), 2);
        s.due("STANDS", x.pier(0, 1), 0);
        s.due("the PIER undone", x.undo(), 1);
        s.due("STANDS", x.pier(0, 1), 7);
        s.due("PULL is the other yet", x.tug(0, 0), 9);
        s.due("PULL undone", x.undo(), 0);
        s.due("PULL", x.tug(0, 0), 5);
        s.due("no more", x.undo(), STATE);
    }

    private static void takenOff() {
        s.says("A PIER is taken off: STANDS of it as it was.");
        TugLines x = told("t4,99;p1,20;q98,1;q97,20;q0,20;q0,1;");
        int[] stands = {1, 20, 20, 1};
        for (int p = 0; p < 4; p++) {
            s.due("STANDS as it was", x.clear(p), stands[p]);
            s.due("STANDS", x.pier(p, 1), 0);
            s.due("once", x.clear(p), STATE);
            s.due("ACTS", x.count(7), p + 1);
        }
        x = told("t4,99;p1,20;q98,3;");
        x.hours(2);
        s.due("worn to 1", x.clear(0), 1);
        x = told("t4,99;p1,20;q98,3;");
        x.hours(3);
        s.due("worn away", x.clear(0), STATE);
    }

    private static void actsKept() {
        s.says("ACTS (24 at most are kept, of more the oldest is forgotten; each can be undone, the latest first)");
        TugLines x = told("t60,99;p1,20;");
        for (int n = 1; n <= 23; n++) x.pull(0, 1 + n % 20);
        s.due("23", x.count(7), 23);
        x.hours(1);
        s.due("24", x.count(7), 24);
        x.hours(1);
        s.due("24 of 25", x.count(7), 24);
        s.due("HOUR 2", x.count(3), 2);
        for (int n = 23; n >= 0; n--) s.due("undo()", x.undo(), n);
        s.due("no more", x.undo(), STATE);
        s.due("HOURS are undone", x.count(3), 0);
        // The first PULL, 2, was forgotten with its ACT.
        s.due("PULL", x.tug(0, 0), 2);
        // Round and round: 60 ACTS, 12 of the 24 kept are undone, then 8 more.
        x = told("t60,99;p1,20;");
        pullOften(x, 60);
        for (int n = 23; n >= 12; n--) s.due("a PULL is undone", x.undo(), n);
        s.due("the 48th PULL", x.tug(0, 0), 1 + 47 % 20);
        holdAndLetGo(x, 4);
        s.due("12 and 8", x.count(7), 20);
        for (int n = 19; n >= 0; n--) s.due("undo()", x.undo(), n);
        s.due("the 36th PULL", x.tug(0, 0), 1 + 35 % 20);
        s.due("none", x.undo(), STATE);
        // The same with 30 more: all PULLS are forgotten, and 6 of the 30.
        x = told("t60,99;p1,20;");
        pullOften(x, 60);
        for (int n = 23; n >= 12; n--) s.due("a PULL is undone", x.undo(), n);
        holdAndLetGo(x, 15);
        s.due("24 of 42", x.count(7), 24);
        for (int n = 23; n >= 0; n--) {
            s.due("HOLDS", x.tug(0, 3), n % 2);
            s.due("undo()", x.undo(), n);
        }
        s.due("the 48th PULL", x.tug(0, 0), 1 + 47 % 20);
        s.due("none", x.undo(), STATE);
    }

    private static void pullOften(TugLines x, int times) {
        for (int n = 0; n < times; n++) x.pull(0, 1 + n % 20);
    }

    /** Two ACTS each time; HOLDS at last. */
    private static void holdAndLetGo(TugLines x, int times) {
        for (int n = 0; n < times; n++) {
            x.loose(0);
            x.mend(0);
        }
    }

    private static void eachActIsUndone() {
        s.says("each can be undone, the latest first");
        TugLines x = told("t4,40;p5,4;b1,20;q36,9;");
        x.hours(1);
        s.due("OUT", x.count(5), 37);
        s.due("STANDS", x.pier(0, 1), 7);
        s.due("the boy is gone", x.count(6), 1);
        s.due("undone", x.undo(), 0);
        s.due("OUT", x.count(5), 40);
        s.due("HOUR", x.count(3), 0);
        s.due("STANDS", x.pier(0, 1), 9);
        s.due("the boy HOLDS", x.count(6), 3);
        s.due("FRAYED", x.tug(0, 2), 0);
        // An HOUR in which a rope PARTED: FRAYED is 2 again.
        x.hours(3);
        s.due("PARTED", x.tug(0, 3), 0);
        s.due("undone", x.undo(), 2);
        s.due("HOLDS", x.tug(0, 3), 1);
        s.due("FRAYED", x.tug(0, 2), 2);
        // Mended, let go (FRAYED 0), other PULLS, taken off: each with what it was.
        x.mend(0);
        x.undo();
        s.due("FRAYED behind mend", x.tug(0, 2), 2);
        x.loose(0);
        x.undo();
        s.due("FRAYED behind loose", x.tug(0, 2), 2);
        s.due("HOLDS behind loose", x.tug(0, 3), 1);
        x.mend(1);
        x.undo();
        s.due("HOLDS not behind mend", x.tug(1, 3), 0);
        x.pull(0, 20);
        x.undo();
        s.due("PULL", x.tug(0, 0), 5);
        x.clear(0);
        x.undo();
        s.due("STANDS, less by 2 and 5", x.pier(0, 1), 2);
        // What was undone cannot be had again, and what comes then is an ACT of its own.
        s.due("ACTS", x.count(7), 2);
        x.pull(0, 7);
        s.due("ACTS", x.count(7), 3);
        s.due("the latest first", x.undo(), 2);
        s.due("PULL", x.tug(0, 0), 5);
        s.due("HOUR", x.count(3), 2);
        s.due("then an HOUR", x.undo(), 1);
        s.due("HOUR", x.count(3), 1);
    }

    private static void ofATug() {
        s.says("Of a TUG: 0 PULL, 1 ROPE, 2 FRAYED, 3 whether it HOLDS (1, 0), 4 what it DRAWS in this HOUR.");
        TugLines x = told("t60,99;p1,2;l3,4;s5,6;a7,8;b9,10;p11,12;");
        for (int t = 0; t < 6; t++) {
            int draws = t == 3 || t == 4 ? 0 : 2 * t + 1;
            int[] wants = {2 * t + 1, 2 * t + 2, 0, 1, draws};
            for (int what = 0; what <= 4; what++) s.due("tug(" + t + ", " + what + ")", x.tug(t, what), wants[what]);
        }
        s.due("no TUG 6", x.tug(6, 0), BAD);
        s.due("what 5", x.tug(0, 5), BAD);
        x.pull(0, 9);
        x.hours(2);
        int[] wants = {9, 2, 2, 1, 9};
        for (int what = 0; what <= 4; what++) s.due("FRAYED, " + what, x.tug(0, what), wants[what]);
        x.hours(1);
        int[] parted = {9, 2, 0, 0, 0};
        for (int what = 0; what <= 4; what++) s.due("PARTED, " + what, x.tug(0, what), parted[what]);
        s.due("this HOUR, 3: a launch", x.tug(3, 4), 0);
        s.due("this HOUR, 3: a lame one", x.tug(1, 4), 1);
    }

    private static void ofAPier() {
        s.says("Of a PIER: 0 its place, 1 STANDS.");
        TugLines x = told("t4,99;p5,20;q98,20;q0,1;q50,7;q97,3;");
        int[][] wants = {{98, 20}, {0, 1}, {50, 7}, {97, 3}};
        for (int p = 0; p < 4; p++) {
            for (int what = 0; what < 2; what++) s.due("pier(" + p + ", " + what + ")", x.pier(p, what), wants[p][what]);
        }
        s.due("no PIER 4", x.pier(4, 0), BAD);
        s.due("what 2", x.pier(0, 2), BAD);
        x.hours(1);
        s.due("its place stays", x.pier(0, 0), 98);
        s.due("STANDS less", x.pier(0, 1), 15);
        x.clear(0);
        s.due("its place stays", x.pier(0, 0), 98);
        s.due("STANDS 0", x.pier(0, 1), 0);
    }
}
