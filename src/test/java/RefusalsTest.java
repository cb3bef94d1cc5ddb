import java.util.function.Consumer;
import java.util.function.ToIntFunction;

/** Every refusal and FINDING of every call, their order, and that they change nothing but status(). */
public final class RefusalsTest {
    private static final int BAD = -1000001, STATE = -1000002, FULL = -1000003;
    private static final int NULL = -1000011, PLACE = -1000012, KIND = -1000013, SIZE = -1000014, STORE = -1000015;
    private static final int MIN = Integer.MIN_VALUE, MAX = Integer.MAX_VALUE;

    private static final Sentences s = new Sentences("refusals");

    public static void main(String[] args) {
        theLifeIsAsTold();
        numbersOfFindings();
        rows();
        tapes();
        acts();
        actsRefusedByState();
        tugsAndPiers();
        foretold();
        fits();
        chances();
        images();
        asked();
        withoutAnEstuary();
        orderOfRefusals();
        noMoreThanIsSaid();
        s.end();
    }

    /** Refused: status() stays what it was in that life. Found: it is the number of the FINDING. */
    private static void refused(Consumer<TugLines> life, String call, int answer, ToIntFunction<TugLines> does) {
        TugLines alike = new TugLines();
        life.accept(alike);
        int statusThen = answer < -1000010 ? -1000010 - answer : alike.status();
        Twins.changesNothing(s, call, life, does, answer, statusThen);
    }

    private static void rich(String call, int answer, ToIntFunction<TugLines> does) {
        refused(Twins.RICH, call, answer, does);
    }

    /** What is refused in it would show nothing if it were poorer than its comment says. */
    private static void theLifeIsAsTold() {
        s.says("What is refused, or found, changes nothing but status().");
        TugLines x = new TugLines();
        Twins.RICH.accept(x);
        int[] counts = {4, 5, 3, 3, 16, 58, 1 + 2 + 8, 7, 6};
        for (int what = 0; what <= 8; what++) s.due("count(" + what + ")", x.count(what), counts[what]);
        s.due("FRAYED", x.tug(0, 2), 1);
        s.due("PIER 0 is worn away", x.pier(0, 1), 0);
        s.due("PIER 1 STANDS", x.pier(1, 1), 20);
        s.due("PIER 2 is taken off", x.pier(2, 1), 0);
        s.due("the latest FAULT", x.fault(), 2);
        s.due("THE TRACE", x.trace(0), 12);
        s.due("status()", x.status(), 1);
        int[] least = {17, 11, 9, 7, 6};
        for (int i = 0; i < least.length; i++) s.due("ROW 0, least MASS of " + i, x.fits(0, 0, i, 1, 4), least[i]);
        s.due("IMAGE 0", x.restore(0), STATE);
        s.due("IMAGE 1", x.restore(1), 1);
        s.due("HOUR of IMAGE 1", x.count(3), 1);
    }

    private static void numbersOfFindings() {
        s.says("-1000010 less 1 NULL (a ROW that is missing), 2 PLACE (no such place of a ROW), 3 KIND (a TUG that is"
            + " not that), 4 SIZE (fewer than none), 5 STORE (ROWS of two LANES)");
        rich("NULL", -1000011, x -> x.drop(4));
        rich("PLACE", -1000012, x -> x.set(0, 5, 1));
        rich("KIND", -1000013, x -> x.as(0, 2));
        rich("SIZE", -1000014, x -> x.row(4, 0, -1));
        rich("STORE", -1000015, x -> x.copy(0, 0, 1, 0, 1));
    }

    private static void rows() {
        s.says("A ROW of a LANE with n ITEMS, in place of what is there: n. BAD: ROW, LANE, n above 40; SIZE.");
        rich("row -1", BAD, x -> x.row(-1, 0, 1));
        rich("row 8", BAD, x -> x.row(8, 0, 1));
        rich("row least", BAD, x -> x.row(MIN, 0, 1));
        rich("row greatest", BAD, x -> x.row(MAX, 0, 1));
        rich("lane -1", BAD, x -> x.row(0, -1, 1));
        rich("lane 3", BAD, x -> x.row(0, 3, 1));
        rich("lane least", BAD, x -> x.row(0, MIN, 1));
        rich("lane greatest", BAD, x -> x.row(0, MAX, 1));
        rich("41 items", BAD, x -> x.row(0, 0, 41));
        rich("items without end", BAD, x -> x.row(0, 0, MAX));
        rich("-1 items", SIZE, x -> x.row(0, 0, -1));
        rich("-1 items of a row that is missing", SIZE, x -> x.row(7, 2, -1));
        rich("fewest items", SIZE, x -> x.row(2, 2, MIN));
        s.says("ITEM i becomes v, its lowest bits, as many as the LANE has: what it is then. BAD: ROW; NULL; PLACE.");
        rich("row -1", BAD, x -> x.set(-1, 0, 1));
        rich("row 8", BAD, x -> x.set(8, 0, 1));
        rich("row least", BAD, x -> x.set(MIN, 0, 1));
        rich("missing", NULL, x -> x.set(4, 0, 1));
        rich("place -1", PLACE, x -> x.set(0, -1, 1));
        rich("place 5 of 5", PLACE, x -> x.set(0, 5, 1));
        rich("place 0 of none", PLACE, x -> x.set(3, 0, 1));
        rich("place least", PLACE, x -> x.set(1, MIN, 1));
        rich("place greatest", PLACE, x -> x.set(2, MAX, 1));
        s.says("BAD: ROWS; NULL; STORE; PLACE (i, j, n below 0, or beyond an end).");
        rich("a -1", BAD, x -> x.copy(-1, 0, 0, 0, 1));
        rich("a 8", BAD, x -> x.copy(8, 0, 0, 0, 1));
        rich("b -1", BAD, x -> x.copy(0, 0, -1, 0, 1));
        rich("b 8", BAD, x -> x.copy(0, 0, 8, 0, 1));
        rich("a is missing", NULL, x -> x.copy(4, 0, 0, 0, 1));
        rich("b is missing", NULL, x -> x.copy(0, 0, 4, 0, 1));
        rich("one missing, to itself", NULL, x -> x.copy(4, 0, 4, 0, 0));
        rich("bytes to shorts", STORE, x -> x.copy(0, 0, 1, 0, 1));
        rich("shorts to ints", STORE, x -> x.copy(1, 0, 2, 0, 1));
        rich("ints to bytes, none of them", STORE, x -> x.copy(2, 0, 0, 0, 0));
        rich("i below 0", PLACE, x -> x.copy(0, -1, 0, 1, 1));
        rich("j below 0", PLACE, x -> x.copy(0, 1, 0, -1, 1));
        rich("n below 0", PLACE, x -> x.copy(0, 1, 0, 1, -1));
        rich("n least", PLACE, x -> x.copy(0, 1, 0, 1, MIN));
        rich("beyond the end of a by i", PLACE, x -> x.copy(0, 5, 0, 0, 1));
        rich("beyond the end of a by n", PLACE, x -> x.copy(2, 2, 2, 0, 5));
        rich("beyond the end of b by j", PLACE, x -> x.copy(0, 0, 0, 5, 1));
        rich("beyond the end of b by n", PLACE, x -> x.copy(2, 0, 2, 2, 5));
        rich("more than all", PLACE, x -> x.copy(0, 0, 0, 0, 6));
        rich("to a row of none", PLACE, x -> x.copy(2, 0, 3, 0, 1));
        rich("from a row of none", PLACE, x -> x.copy(3, 0, 2, 0, 1));
        rich("none, from beyond the end", PLACE, x -> x.copy(0, 6, 0, 0, 0));
        rich("none, to beyond the end", PLACE, x -> x.copy(0, 0, 0, 6, 0));
        rich("i and n that wrap around", PLACE, x -> x.copy(0, MAX, 0, 0, 2));
        rich("j and n that wrap around", PLACE, x -> x.copy(0, 0, 0, MAX, 2));
        rich("the greatest n", PLACE, x -> x.copy(0, 1, 0, 1, MAX));
        s.says("A ROW is missing from now on: how many ITEMS it had. BAD; NULL.");
        rich("row -1", BAD, x -> x.drop(-1));
        rich("row 8", BAD, x -> x.drop(8));
        rich("row greatest", BAD, x -> x.drop(MAX));
        rich("missing", NULL, x -> x.drop(7));
    }

    private static void tapes() {
        s.says("A byte (0 to 255) comes behind the tape: how many it has. BAD; FULL.");
        rich("below", BAD, x -> x.feed(-1));
        rich("above", BAD, x -> x.feed(256));
        rich("least", BAD, x -> x.feed(MIN));
        rich("greatest", BAD, x -> x.feed(MAX));
        refused(Twins.FULL_TAPE, "the 91st", FULL, x -> x.feed('t'));
        refused(Twins.FULL_TAPE, "the 91st, 0", FULL, x -> x.feed(0));
        s.says("-1000100 less the place of a FAULT: all stays.");
        // The latest FAULT of that life was a 2, too, so that even fault() is as it was.
        refusedText("t9,9;p2,2;q99,", -1000111);
        refusedText("t61,9;", -1000101);
        refusedText("t9,9;p2,2;p2,2;p2,21;", -1000118);
        refusedText("t9,9;p2,2;q9,21;", -1000113);
    }

    private static void refusedText(String text, int answer) {
        Twins.changesNothing(s, text, Twins.UNTAPED, x -> Sentences.read(x, text), answer, 1);
    }

    private static void acts() {
        s.says("n HOURS (1 to 24), an ACT each: OUT then. BAD; STATE: no ESTUARY (ahead of BAD); FULL: beyond HOUR"
            + " 9999.");
        rich("0 hours", BAD, x -> x.hours(0));
        rich("25 hours", BAD, x -> x.hours(25));
        rich("-1 hours", BAD, x -> x.hours(-1));
        rich("fewest hours", BAD, x -> x.hours(MIN));
        rich("most hours", BAD, x -> x.hours(MAX));
        refused(Twins.NEW, "no ESTUARY", STATE, x -> x.hours(1));
        refused(Twins.NEAR_THE_END, "16 from HOUR 9984 on", FULL, x -> x.hours(16));
        refused(Twins.NEAR_THE_END, "24 from HOUR 9984 on", FULL, x -> x.hours(24));
        Consumer<TugLines> last = Twins.NEAR_THE_END.andThen(x -> x.hours(15));
        TugLines y = new TugLines();
        last.accept(y);
        s.due("15 from HOUR 9984 on", y.count(3), 9999);
        s.due("1 from HOUR 9999 on", y.hours(1), FULL);
        s.due("HOUR stays", y.count(3), 9999);
        s.due("ACTS stay", y.count(7), 24);
        s.says("A rope is mended: TUGS (bits) that HOLD then. BAD; STATE: it HOLDS, and is not FRAYED.");
        rich("no TUG -1", BAD, x -> x.mend(-1));
        rich("no TUG 5", BAD, x -> x.mend(5));
        rich("no TUG least", BAD, x -> x.mend(MIN));
        rich("no TUG greatest", BAD, x -> x.mend(MAX));
        rich("HOLDS, not FRAYED", STATE, x -> x.mend(1));
        s.says("A TUG lets go: TUGS (bits) that HOLD then. BAD; STATE: it does not HOLD.");
        rich("no TUG -1", BAD, x -> x.loose(-1));
        rich("no TUG 5", BAD, x -> x.loose(5));
        rich("no TUG greatest", BAD, x -> x.loose(MAX));
        rich("let go before", STATE, x -> x.loose(2));
        rich("PARTED before", STATE, x -> x.loose(4));
        s.says("PULL of a TUG is v (1 to 20): what it was. BAD.");
        rich("no TUG -1", BAD, x -> x.pull(-1, 5));
        rich("no TUG 5", BAD, x -> x.pull(5, 5));
        rich("PULL 0", BAD, x -> x.pull(0, 0));
        rich("PULL 21", BAD, x -> x.pull(0, 21));
        rich("PULL -1", BAD, x -> x.pull(0, -1));
        rich("PULL least", BAD, x -> x.pull(0, MIN));
        rich("PULL greatest", BAD, x -> x.pull(0, MAX));
    }

    private static void actsRefusedByState() {
        s.says("A PIER is taken off: STANDS of it as it was. BAD; STATE: it does not STAND.");
        rich("no PIER -1", BAD, x -> x.clear(-1));
        rich("no PIER 3", BAD, x -> x.clear(3));
        rich("no PIER 4", BAD, x -> x.clear(4));
        rich("no PIER greatest", BAD, x -> x.clear(MAX));
        rich("worn away", STATE, x -> x.clear(0));
        rich("taken off before", STATE, x -> x.clear(2));
        s.says("The latest ACT is undone: how many can be undone yet. STATE: none.");
        refused(Twins.NEW, "no ESTUARY", STATE, TugLines::undo);
        refused(Twins.READ, "no ACT since it was read", STATE, TugLines::undo);
        refused(Twins.RICH.andThen(x -> x.restore(1)), "no ACT since an IMAGE", STATE, TugLines::undo);
        refused(Twins.READ.andThen(x -> x.hours(2)).andThen(x -> x.undo()).andThen(x -> x.undo()), "all undone", STATE,
            TugLines::undo);
    }

    private static void tugsAndPiers() {
        s.says("Of a TUG: 0 PULL, 1 ROPE, 2 FRAYED, 3 whether it HOLDS (1, 0), 4 what it DRAWS in this HOUR. BAD.");
        rich("no TUG -1", BAD, x -> x.tug(-1, 0));
        rich("no TUG 5", BAD, x -> x.tug(5, 0));
        rich("no TUG 6", BAD, x -> x.tug(6, 4));
        rich("no TUG greatest", BAD, x -> x.tug(MAX, 0));
        rich("what -1", BAD, x -> x.tug(0, -1));
        rich("what 5", BAD, x -> x.tug(0, 5));
        rich("what greatest", BAD, x -> x.tug(0, MAX));
        s.says("Of a PIER: 0 its place, 1 STANDS. BAD.");
        rich("no PIER -1", BAD, x -> x.pier(-1, 0));
        rich("no PIER 3", BAD, x -> x.pier(3, 0));
        rich("no PIER 4", BAD, x -> x.pier(4, 1));
        rich("no PIER least", BAD, x -> x.pier(MIN, 0));
        rich("what -1", BAD, x -> x.pier(0, -1));
        rich("what 2", BAD, x -> x.pier(0, 2));
    }

    private static void foretold() {
        s.says("OUT (what = 0), SPEED (1), TUGS that HOLD (2), PIERS that STAND (3), d HOURS on. BAD; STATE: no ESTUARY"
            + " (ahead of BAD).");
        rich("-1 on", BAD, x -> x.later(-1, 0));
        rich("61 on", BAD, x -> x.later(61, 0));
        rich("least", BAD, x -> x.later(MIN, 0));
        rich("greatest", BAD, x -> x.later(MAX, 0));
        rich("what -1", BAD, x -> x.later(0, -1));
        rich("what 4", BAD, x -> x.later(0, 4));
        refused(Twins.NEW, "no ESTUARY", STATE, x -> x.later(0, 0));
        refused(Twins.NEW, "no ESTUARY, d", STATE, x -> x.later(61, 0));
        refused(Twins.NEW, "no ESTUARY, what", STATE, x -> x.later(0, 4));
        s.says("IN; NONE. STATE: no ESTUARY.");
        refused(Twins.NEW, "no ESTUARY", STATE, TugLines::arrives);
        s.says("PARTS; NONE. BAD.");
        rich("no TUG -1", BAD, x -> x.parts(-1));
        rich("no TUG 5", BAD, x -> x.parts(5));
        rich("no TUG greatest", BAD, x -> x.parts(MAX));
        s.says("CREW: how many (what = 0), which (1); NONE. BAD; STATE: no ESTUARY (ahead of BAD).");
        rich("0 HOURS", BAD, x -> x.crew(0, 0));
        rich("31 HOURS", BAD, x -> x.crew(31, 0));
        rich("HOURS below 0", BAD, x -> x.crew(-1, 1));
        rich("most HOURS", BAD, x -> x.crew(MAX, 1));
        rich("what -1", BAD, x -> x.crew(1, -1));
        rich("what 2", BAD, x -> x.crew(1, 2));
        refused(Twins.NEW, "no ESTUARY", STATE, x -> x.crew(1, 0));
        refused(Twins.NEW, "no ESTUARY, n", STATE, x -> x.crew(0, 0));
        refused(Twins.NEW, "no ESTUARY, what", STATE, x -> x.crew(1, 2));
        s.says("CLEAR: how many (what = 0), which (1); NONE. BAD; STATE: no ESTUARY (ahead of BAD).");
        rich("0 HOURS", BAD, x -> x.cleared(0, 0));
        rich("31 HOURS", BAD, x -> x.cleared(31, 0));
        rich("HOURS below 0", BAD, x -> x.cleared(-1, 1));
        rich("what -1", BAD, x -> x.cleared(1, -1));
        rich("what 2", BAD, x -> x.cleared(1, 2));
        refused(Twins.NEW, "no ESTUARY", STATE, x -> x.cleared(1, 0));
        refused(Twins.NEW, "no ESTUARY, n", STATE, x -> x.cleared(31, 0));
        refused(Twins.NEW, "no ESTUARY, what", STATE, x -> x.cleared(1, -1));
        s.says("LEAST; NONE. BAD.");
        rich("no TUG -1", BAD, x -> x.least(-1, 1));
        rich("no TUG 5", BAD, x -> x.least(5, 1));
        rich("0 HOURS", BAD, x -> x.least(0, 0));
        rich("31 HOURS", BAD, x -> x.least(0, 31));
        rich("HOURS below 0", BAD, x -> x.least(0, -1));
        s.says("SHARE. BAD.");
        rich("no TUG -1", BAD, x -> x.share(-1, 1));
        rich("no TUG 5", BAD, x -> x.share(5, 1));
        rich("-1 in all", BAD, x -> x.share(0, -1));
        rich("1000 in all", BAD, x -> x.share(0, 1000));
        rich("-1 in all, of one that does not HOLD", BAD, x -> x.share(2, -1));
        rich("1000 in all, of one that does not HOLD", BAD, x -> x.share(2, 1000));
    }

    private static void fits() {
        s.says("SORTS (what = 0), PULLS (1), ROPES (2) of a TUG, MASSES: how many (3), the least (4; NONE), by OUT, n ITEMS"
            + " of a ROW from i on. BAD: TUG (always), ROW, n, what; NULL; PLACE.");
        for (int w = 0; w <= 4; w++) {
            int what = w;
            rich("no TUG -1, what " + w, BAD, x -> x.fits(-1, 0, 0, 1, what));
            rich("no TUG 5, what " + w, BAD, x -> x.fits(5, 0, 0, 1, what));
            rich("no ROW -1, what " + w, BAD, x -> x.fits(0, -1, 0, 1, what));
            rich("no ROW 8, what " + w, BAD, x -> x.fits(0, 8, 0, 1, what));
            rich("missing, what " + w, NULL, x -> x.fits(0, 4, 0, 1, what));
            rich("beyond, what " + w, PLACE, x -> x.fits(0, 0, 5, 1, what));
        }
        rich("no HOUR", BAD, x -> x.fits(0, 0, 0, 0, 0));
        rich("13 HOURS", BAD, x -> x.fits(0, 0, 0, 13, 0));
        rich("HOURS below 0", BAD, x -> x.fits(0, 0, 0, -1, 0));
        rich("most HOURS", BAD, x -> x.fits(0, 0, 0, MAX, 0));
        rich("what -1", BAD, x -> x.fits(0, 0, 0, 1, -1));
        rich("what 5", BAD, x -> x.fits(0, 0, 0, 1, 5));
        rich("i below 0", PLACE, x -> x.fits(0, 0, -1, 1, 0));
        rich("i and n beyond", PLACE, x -> x.fits(0, 0, 3, 3, 0));
        rich("n beyond", PLACE, x -> x.fits(0, 0, 0, 6, 0));
        rich("12 of 6", PLACE, x -> x.fits(0, 2, 0, 12, 0));
        rich("of a ROW of none", PLACE, x -> x.fits(0, 3, 0, 1, 0));
        rich("i and n that wrap around", PLACE, x -> x.fits(0, 0, MAX, 12, 0));
        rich("i least", PLACE, x -> x.fits(0, 0, MIN, 1, 0));
    }

    private static void chances() {
        s.says("CHANCE (c 0 to 10): above (what = 0), below (1). BAD; STATE: no ESTUARY (ahead of BAD).");
        rich("-1 HOURS", BAD, x -> x.chance(-1, 5, 0));
        rich("9 HOURS", BAD, x -> x.chance(9, 5, 0));
        rich("most HOURS", BAD, x -> x.chance(MAX, 5, 0));
        rich("-1 of 10", BAD, x -> x.chance(1, -1, 0));
        rich("11 of 10", BAD, x -> x.chance(1, 11, 0));
        rich("what -1", BAD, x -> x.chance(1, 5, -1));
        rich("what 2", BAD, x -> x.chance(1, 5, 2));
        refused(Twins.NEW, "no ESTUARY", STATE, x -> x.chance(0, 0, 0));
        refused(Twins.NEW, "no ESTUARY, n", STATE, x -> x.chance(9, 0, 0));
        refused(Twins.NEW, "no ESTUARY, c", STATE, x -> x.chance(0, 11, 0));
        refused(Twins.NEW, "no ESTUARY, what", STATE, x -> x.chance(0, 0, 2));
        s.says("YEARS by a SEED (1 to 999999): how often (what = 0), how many (1). BAD; STATE: no ESTUARY (ahead of"
            + " BAD).");
        rich("-1 HOURS", BAD, x -> x.drawn(-1, 1, 0));
        rich("61 HOURS", BAD, x -> x.drawn(61, 1, 0));
        rich("SEED 0", BAD, x -> x.drawn(1, 0, 0));
        rich("SEED -1", BAD, x -> x.drawn(1, -1, 0));
        rich("SEED 1000000", BAD, x -> x.drawn(1, 1000000, 0));
        rich("SEED greatest", BAD, x -> x.drawn(1, MAX, 0));
        rich("SEED 0, no HOURS", BAD, x -> x.drawn(0, 0, 0));
        rich("what -1", BAD, x -> x.drawn(1, 1, -1));
        rich("what 2", BAD, x -> x.drawn(1, 1, 2));
        refused(Twins.NEW, "no ESTUARY", STATE, x -> x.drawn(0, 1, 0));
        refused(Twins.NEW, "no ESTUARY, n", STATE, x -> x.drawn(61, 1, 0));
        refused(Twins.NEW, "no ESTUARY, SEED", STATE, x -> x.drawn(0, 0, 0));
        refused(Twins.NEW, "no ESTUARY, what", STATE, x -> x.drawn(0, 1, 2));
    }

    private static void images() {
        s.says("An IMAGE (0, 1) is kept of the ESTUARY: 1. BAD; STATE: no ESTUARY.");
        rich("no IMAGE -1", BAD, x -> x.image(-1));
        rich("no IMAGE 2", BAD, x -> x.image(2));
        rich("no IMAGE greatest", BAD, x -> x.image(MAX));
        refused(Twins.NEW, "no ESTUARY", STATE, x -> x.image(0));
        refused(Twins.NEW, "no ESTUARY", STATE, x -> x.image(1));
        refused(Twins.NEW, "BAD ahead of STATE", BAD, x -> x.image(2));
        s.says("The ESTUARY is as an IMAGE kept it (no ACT can be undone then): 1. BAD; STATE: none was kept.");
        rich("no IMAGE -1", BAD, x -> x.restore(-1));
        rich("no IMAGE 2", BAD, x -> x.restore(2));
        rich("IMAGE 0 was not kept", STATE, x -> x.restore(0));
        refused(Twins.READ, "IMAGE 1 was not kept", STATE, x -> x.restore(1));
        refused(Twins.NEW, "none was kept", STATE, x -> x.restore(0));
        refused(Twins.NEW, "BAD ahead of STATE", BAD, x -> x.restore(2));
    }

    private static void asked() {
        s.says("The KIND of a TUG, as told (1 to 5). BAD.");
        rich("no TUG -1", BAD, x -> x.kind(-1));
        rich("no TUG 5", BAD, x -> x.kind(5));
        rich("no TUG 6", BAD, x -> x.kind(6));
        s.says("A TUG is taken as one of a KIND (0 .. 5): its number. BAD; KIND: it is no such one.");
        rich("no TUG -1", BAD, x -> x.as(-1, 0));
        rich("no TUG 5", BAD, x -> x.as(5, 0));
        rich("no KIND -1", BAD, x -> x.as(0, -1));
        rich("no KIND 6", BAD, x -> x.as(0, 6));
        rich("no KIND greatest", BAD, x -> x.as(0, MAX));
        rich("no such one", KIND, x -> x.as(1, 3));
        rich("no such one", KIND, x -> x.as(3, 5));
        s.says("An ASK (0, 1) of a TUG. BAD. THE TRACE is empty ahead of it.");
        rich("no TUG -1", BAD, x -> x.ask(-1, 0));
        rich("no TUG 5", BAD, x -> x.ask(5, 0));
        rich("no ASK -1", BAD, x -> x.ask(0, -1));
        rich("no ASK 2", BAD, x -> x.ask(0, 2));
        s.says("7 ACTS that can be undone, 8 bytes on the tape. BAD.");
        rich("what -1", BAD, x -> x.count(-1));
        rich("what 9", BAD, x -> x.count(9));
        rich("what least", BAD, x -> x.count(MIN));
        rich("what greatest", BAD, x -> x.count(MAX));
    }

    /** With no ESTUARY there is no TUG, and no PIER. */
    private static void withoutAnEstuary() {
        s.says("BAD (a number is not as told; there is no such thing)");
        Consumer<TugLines> none = Twins.NEW;
        refused(none, "mend", BAD, x -> x.mend(0));
        refused(none, "loose", BAD, x -> x.loose(0));
        refused(none, "pull", BAD, x -> x.pull(0, 1));
        refused(none, "clear", BAD, x -> x.clear(0));
        refused(none, "tug", BAD, x -> x.tug(0, 0));
        refused(none, "pier", BAD, x -> x.pier(0, 0));
        refused(none, "parts", BAD, x -> x.parts(0));
        refused(none, "least", BAD, x -> x.least(0, 1));
        refused(none, "share", BAD, x -> x.share(0, 0));
        refused(none, "kind", BAD, x -> x.kind(0));
        refused(none, "as", BAD, x -> x.as(0, 0));
        refused(none, "ask", BAD, x -> x.ask(0, 0));
        for (int w = 0; w <= 4; w++) {
            int what = w;
            refused(none, "fits, what " + w, BAD, x -> x.fits(0, 0, 0, 1, what));
        }
        // A text with a FAULT that had TUGS and PIERS makes none either.
        Consumer<TugLines> faulty = x -> Sentences.read(x, "t1,1;p1,1;q1,1;z");
        refused(faulty, "tug behind a FAULT", BAD, x -> x.tug(0, 0));
        refused(faulty, "pier behind a FAULT", BAD, x -> x.pier(0, 0));
        refused(faulty, "hours behind a FAULT", STATE, x -> x.hours(1));
        refused(faulty, "image behind a FAULT", STATE, x -> x.image(0));
        refused(Twins.READ, "a second PIER of one", BAD, x -> x.clear(1));
    }

    private static void orderOfRefusals() {
        s.says("Refusals are answers, the first of these that fits, but as told: BAD (a number is not as told; there is"
            + " no such thing), STATE (as told), FULL (as told), then FINDINGS, of several the first in time");
        rich("row: BAD ahead of SIZE", BAD, x -> x.row(8, 0, -1));
        rich("row: BAD ahead of SIZE", BAD, x -> x.row(0, 3, -1));
        rich("set: BAD ahead of NULL", BAD, x -> x.set(8, -1, 1));
        rich("set: NULL ahead of PLACE", NULL, x -> x.set(4, -1, 1));
        rich("copy: BAD ahead of NULL", BAD, x -> x.copy(4, 0, 8, 0, 1));
        rich("copy: BAD ahead of NULL", BAD, x -> x.copy(8, 0, 4, 0, 1));
        rich("copy: BAD ahead of PLACE", BAD, x -> x.copy(0, -1, 8, 0, 1));
        rich("copy: NULL ahead of PLACE", NULL, x -> x.copy(4, -1, 0, 0, 1));
        rich("copy: NULL ahead of PLACE", NULL, x -> x.copy(0, 0, 4, -1, -1));
        rich("copy: STORE ahead of PLACE", STORE, x -> x.copy(0, -1, 1, 0, 1));
        rich("copy: STORE ahead of PLACE", STORE, x -> x.copy(0, 0, 1, 0, -1));
        refused(Twins.FULL_TAPE, "feed: BAD ahead of FULL", BAD, x -> x.feed(-1));
        refused(Twins.FULL_TAPE, "feed: BAD ahead of FULL", BAD, x -> x.feed(256));
        refused(Twins.NEW, "hours: STATE ahead of BAD", STATE, x -> x.hours(0));
        refused(Twins.NEW, "hours: STATE ahead of BAD", STATE, x -> x.hours(25));
        refused(Twins.NEAR_THE_END, "hours: BAD ahead of FULL", BAD, x -> x.hours(25));
        rich("fits: BAD ahead of NULL", BAD, x -> x.fits(0, 4, 0, 13, 0));
        rich("fits: BAD ahead of NULL", BAD, x -> x.fits(5, 4, 0, 1, 0));
        rich("fits: BAD ahead of NULL", BAD, x -> x.fits(0, 4, 0, 1, 5));
        rich("fits: NULL ahead of PLACE", NULL, x -> x.fits(0, 4, -1, 1, 0));
        rich("fits: BAD ahead of PLACE", BAD, x -> x.fits(0, 0, -1, 1, 5));
        rich("fits: BAD ahead of PLACE", BAD, x -> x.fits(0, 0, 9, 0, 0));
        rich("as: BAD ahead of KIND", BAD, x -> x.as(5, 3));
    }

    private static void changesNoMore(String call, ToIntFunction<TugLines> does) {
        Twins.changesNoMore(s, call, Twins.RICH, does);
    }

    /** What is not refused changes what its sentence names, and no more. */
    private static void noMoreThanIsSaid() {
        s.says("Nothing is promised beyond the answers and state changes described above");
        changesNoMore("hours", x -> x.hours(24));
        changesNoMore("mend", x -> x.mend(0));
        changesNoMore("loose", x -> x.loose(0));
        changesNoMore("pull", x -> x.pull(0, 20));
        changesNoMore("clear", x -> x.clear(1));
        changesNoMore("undo", TugLines::undo);
        changesNoMore("image", x -> x.image(0));
        changesNoMore("restore", x -> x.restore(1));
        Twins.changesNoMore(s, "estuary", Twins.UNTAPED, x -> Sentences.read(x, "t1,1;p1,1;q1,1;"));
        Consumer<TugLines> life = Twins.RICH;
        Twins.changesRowsAlone(s, "row", life, x -> x.row(0, 2, 40));
        Twins.changesRowsAlone(s, "row that was missing", life, x -> x.row(7, 2, 40));
        Twins.changesRowsAlone(s, "set", life, x -> x.set(0, 0, 1));
        Twins.changesRowsAlone(s, "copy", life, x -> x.copy(0, 0, 0, 1, 4));
        Twins.changesRowsAlone(s, "drop", life, x -> x.drop(0));
        Twins.changesNothing(s, "as", life, x -> x.as(1, 1), 1, 0);
        askChangesTheTraceAlone();
    }

    private static void askChangesTheTraceAlone() {
        // The same ASK once more, so that THE TRACE is as it was, too.
        Twins.changesNothing(s, "ask", Twins.RICH, x -> x.ask(1, 0), -7, 1);
        Twins.changesNothing(s, "ask", Twins.RICH.andThen(x -> x.ask(3, 1)), x -> x.ask(3, 1), 96, 1);
    }
}
