import java.util.ArrayList;
import java.util.List;
import java.util.function.Consumer;
import java.util.function.ToIntFunction;

/**
 * Two objects with the same life behind them, one of which gets a call more: whether that call changed anything is
 * seen by all that can be asked of the two then. Life and probe together stay below the 512 calls of an object.
 */
final class Twins {
    private Twins() {
    }

    /** Nothing was called. */
    static final Consumer<TugLines> NEW = x -> { };

    /** An ESTUARY was read, no more. */
    static final Consumer<TugLines> READ = x -> Sentences.read(x, "t16,60;p6,5;l5,20;q57,9;");

    /**
     * HOUR 3, OUT 58; TUGS 0 (FRAYED 1), 1, 3 HOLD, 2 was let go, 4 PARTED by SPEED 5; PIER 0 is worn away, PIER 2
     * taken off; 7 ACTS; IMAGE 1 is kept; the latest FAULT is 2; ROWS 0 to 3; a TRACE; an empty tape; status() is 1.
     */
    static final Consumer<TugLines> UNTAPED = x -> {
        Sentences.read(x, "t61,");
        Sentences.read(x, "t16,60;p6,5;l5,20;s4,20;a3,20;b2,20;q57,9;q20,20;q3,1;");
        x.hours(1);
        x.image(1);
        x.hours(1);
        x.mend(0);
        x.loose(2);
        x.pull(3, 7);
        x.clear(2);
        x.hours(1);
        // By FORCE 8 of HOUR 3 each of these is OUT behind an HOUR by a least MASS of its own.
        fill(x, 0, 0, 57, 56, 55, 54, 53);
        fill(x, 1, 1, 52, 50, 49);
        fill(x, 2, 2, 58, 57, 56, 55, 54, 53);
        x.row(3, 2, 0);
        x.ask(1, 0);
        x.set(7, 0, 0);
    };

    /** The same, and a text has begun to come. */
    static final Consumer<TugLines> RICH = UNTAPED.andThen(x -> Sentences.feed(x, "t9,9;p"));

    /** The same as at first, and the tape is full. */
    static final Consumer<TugLines> FULL_TAPE = READ.andThen(x -> {
        for (int i = 0; i < 90; i++) x.feed('p');
    });

    /** HOUR 9984; by 15 HOURS more it is the last. */
    static final Consumer<TugLines> NEAR_THE_END = x -> {
        Sentences.read(x, "t60,99;p1,1;");
        for (int i = 0; i < 416; i++) x.hours(24);
    };

    private static void fill(TugLines x, int row, int lane, int... items) {
        x.row(row, lane, items.length);
        for (int i = 0; i < items.length; i++) x.set(row, i, items[i]);
    }

    /** The call answers this, status() is that then, and all else is as it was. */
    static void changesNothing(Sentences s, String call, Consumer<TugLines> life, ToIntFunction<TugLines> does,
            int answer, int statusThen) {
        TugLines x = new TugLines();
        TugLines twin = new TugLines();
        life.accept(x);
        life.accept(twin);
        s.due(call, does.applyAsInt(x), answer);
        s.due("status() behind " + call, x.status(), statusThen);
        s.that(call + " changes nothing else", seen(life, x).equals(seen(life, twin)));
    }

    /** A call that only asks: whatever it answers, status() with all else is as it was. */
    static void asksOnly(Sentences s, String call, Consumer<TugLines> life, ToIntFunction<TugLines> does) {
        TugLines x = new TugLines();
        TugLines twin = new TugLines();
        life.accept(x);
        life.accept(twin);
        int answer = does.applyAsInt(x);
        s.that(call + " is answered, not refused: " + answer, answer > -1000001);
        s.due("status() behind " + call, x.status(), twin.status());
        s.that(call + " changes nothing", seen(life, x).equals(seen(life, twin)));
    }

    /** A call that may change the ESTUARY, its ACTS and IMAGES: all else, status() with it, is as it was. */
    static void changesNoMore(Sentences s, String call, Consumer<TugLines> life, ToIntFunction<TugLines> does) {
        TugLines x = new TugLines();
        TugLines twin = new TugLines();
        life.accept(x);
        life.accept(twin);
        int answer = does.applyAsInt(x);
        s.that(call + " is answered, not refused: " + answer, answer > -1000001);
        s.that(call + " changes no ROW, nor the tape, nor THE TRACE, nor fault()", seenApart(x).equals(seenApart(twin)));
    }

    /** A call that may change ROWS and status(): all else is as it was. */
    static void changesRowsAlone(Sentences s, String call, Consumer<TugLines> life, ToIntFunction<TugLines> does) {
        TugLines x = new TugLines();
        TugLines twin = new TugLines();
        life.accept(x);
        life.accept(twin);
        int answer = does.applyAsInt(x);
        s.that(call + " is answered, not refused: " + answer, answer > -1000001);
        s.due("status() behind " + call, x.status(), 0);
        // How many ROWS there are is the one count that may be another.
        s.that(call + " changes nothing but ROWS", seenBesidesRows(x).equals(seenBesidesRows(twin)));
    }

    private static List<Integer> seenBesidesRows(TugLines x) {
        List<Integer> seen = new ArrayList<>();
        for (int r = 0; r < 8; r++) x.drop(r);
        seeNow(x, seen, 6, 4);
        seeUndone(x, seen, 10, 5, 3);
        seeTape(x, seen);
        seeImages(x, seen);
        return seen;
    }

    private static List<Integer> seenApart(TugLines x) {
        List<Integer> seen = new ArrayList<>();
        seen.add(x.fault());
        seen.add(x.status());
        seen.add(x.count(0));
        seen.add(x.count(8));
        for (int i = 0; i < 7; i++) seen.add(x.trace(i));
        // Without a FAULT, since with one the ESTUARY, that may be another, would be seen.
        if (x.count(8) == 0) Sentences.feed(x, "t9,9;p");
        seeTape(x, seen);
        // ITEMS are seen by the same OUT and FORCE as in that life.
        Sentences.read(x, "t16,58;p6,20;l2,20;");
        seeRows(x, seen);
        return seen;
    }

    private static List<Integer> seen(Consumer<TugLines> life, TugLines x) {
        List<Integer> seen = new ArrayList<>();
        if (life == NEAR_THE_END) {
            seeNow(x, seen, 1, 0);
            seeUndone(x, seen, 2, 1, 0);
            return seen;
        }
        seeNow(x, seen, 6, 4);
        seeRows(x, seen);
        seeUndone(x, seen, 10, 5, 3);
        seeTape(x, seen);
        seeImages(x, seen);
        return seen;
    }

    private static void seeNow(TugLines x, List<Integer> seen, int tugs, int piers) {
        seen.add(x.fault());
        for (int i = 0; i < 7; i++) seen.add(x.trace(i));
        for (int what = 0; what <= 8; what++) seen.add(x.count(what));
        for (int t = 0; t < tugs; t++) {
            seen.add(x.kind(t));
            for (int what = 0; what <= 4; what++) seen.add(x.tug(t, what));
        }
        for (int p = 0; p < piers; p++) for (int what = 0; what <= 1; what++) seen.add(x.pier(p, what));
        for (int what = 0; what <= 3; what++) seen.add(x.later(2, what));
    }

    /** ITEMS by the least MASS that fits each, LANES by what is left of a great number, sizes by what is dropped. */
    private static void seeRows(TugLines x, List<Integer> seen) {
        for (int r = 0; r < 8; r++) {
            for (int i = 0; i < 6; i++) seen.add(x.fits(0, r, i, 1, 4));
            seen.add(x.set(r, 0, 70000));
            seen.add(x.drop(r));
        }
    }

    private static void seeUndone(TugLines x, List<Integer> seen, int acts, int tugs, int piers) {
        for (int n = 0; n < acts; n++) {
            seen.add(x.undo());
            for (int what : new int[] {3, 5, 6}) seen.add(x.count(what));
            for (int t = 0; t < tugs; t++) seen.add(x.tug(t, 0));
            for (int t = 0; t < tugs; t++) seen.add(x.tug(t, 2));
            for (int p = 0; p < piers; p++) seen.add(x.pier(p, 1));
        }
    }

    private static void seeTape(TugLines x, List<Integer> seen) {
        seen.add(Sentences.read(x, "2,3;"));
        seen.add(x.fault());
        for (int what = 1; what <= 6; what++) seen.add(x.count(what));
        seen.add(x.tug(0, 0));
        seen.add(x.tug(0, 1));
    }

    private static void seeImages(TugLines x, List<Integer> seen) {
        for (int k = 0; k < 2; k++) {
            seen.add(x.restore(k));
            for (int what = 1; what <= 6; what++) seen.add(x.count(what));
            seen.add(x.tug(0, 2));
            seen.add(x.pier(0, 1));
        }
    }
}
