/** Section 1 of the document, and the promises 1 to 8: ROWS, THE TAPE, TEXTS with their FAULTS. */
public final class TextsTest {
    private static final int BAD = -1000001, STATE = -1000002, FULL = -1000003, NULL = -1000011, PLACE = -1000012;
    private static final int MIN = Integer.MIN_VALUE, MAX = Integer.MAX_VALUE;
    private static final String SORTS = "plsab";

    /** As long as a text without a FAULT can be: 77 bytes. */
    private static final String LONGEST =
        "t60,99;p20,20;l20,20;s20,20;a20,20;b20,20;p20,20;q98,20;q98,20;q98,20;q98,20;";

    private static final Sentences s = new Sentences("texts");

    public static void main(String[] args) {
        newObject();
        rowsAtFirst();
        rowsInPlaceOfOthers();
        lowestBits();
        copies();
        drops();
        tape();
        tapeIsReadAndEmpty();
        everyByteAtEveryPlace();
        everyNumber();
        numbersNotAsTold();
        tooManyFigures();
        everyEnd();
        room();
        theLeastOfOneToken();
        theFirstToken();
        inPlaceOfTheOneBefore();
        latestFault();
        s.end();
    }

    private static void newObject() {
        s.says("`TugLines()`: No ESTUARY.");
        TugLines x = new TugLines();
        for (int what = 0; what <= 8; what++) s.due("count(" + what + ")", x.count(what), 0);
        s.due("arrives()", x.arrives(), STATE);
        s.due("undo()", x.undo(), STATE);
        s.due("restore(0)", x.restore(0), STATE);
        s.due("restore(1)", x.restore(1), STATE);
        s.due("fault()", x.fault(), 0);
        s.due("status()", x.status(), 0);
        for (int i = -1; i <= 16; i++) s.due("trace(" + i + ")", x.trace(i), TugLines.NONE);
    }

    private static void rowsAtFirst() {
        s.says("ROWS 0 .. 7 are missing (at first), or have a LANE (0 bytes, 1 shorts, 2 ints) and 0 to 40 ITEMS, 0 at"
            + " first.");
        TugLines x = new TugLines();
        for (int r = 0; r < 8; r++) s.due("drop(" + r + ")", x.drop(r), NULL);
        for (int r = 0; r < 8; r++) {
            s.due("none", x.row(r, r % 3, 0), 0);
            s.due("none has no place", x.set(r, 0, 1), PLACE);
            s.due("40", x.row(r, r % 3, 40), 40);
            s.due("the last place", x.set(r, 39, 1), 1);
            s.due("behind the last", x.set(r, 40, 1), PLACE);
            s.due("1", x.row(r, r % 3, 1), 1);
            s.due("its place", x.set(r, 0, 1), 1);
            s.due("behind it", x.set(r, 1, 1), PLACE);
        }
        s.due("eight ROWS", x.count(0), 8);
        s.due("40 of ints", x.row(4, 2, 40), 40);
        s.due("are 0", allAreNought(x, 4), 40);
    }

    /** With the THING IN, OUT is 0 behind every HOUR: how many ITEMS of a ROW are 0. */
    private static int allAreNought(TugLines x, int row) {
        Sentences.read(x, "t1,1;p1,20;");
        x.hours(1);
        int noughts = 0;
        for (int i = 0; i < 40; i++) noughts += x.fits(0, row, i, 1, 3) == 60 ? 1 : 0;
        return noughts;
    }

    private static void rowsInPlaceOfOthers() {
        s.says("A ROW of a LANE with n ITEMS, in place of what is there: n.");
        TugLines x = new TugLines();
        x.row(2, 2, 40);
        for (int i = 0; i < 40; i++) x.set(2, i, 70000 + i);
        s.due("fewer", x.row(2, 2, 3), 3);
        s.due("and no more", x.set(2, 3, 1), PLACE);
        s.due("as many again", x.row(2, 2, 40), 40);
        s.due("all 0 again", allAreNought(x, 2), 40);
        s.due("one ROW", x.count(0), 1);
        s.due("of bytes", x.row(2, 0, 40), 40);
        s.due("a byte", x.set(2, 0, 300), 44);
        s.due("of shorts", x.row(2, 1, 40), 40);
        s.due("a short", x.set(2, 0, 70000), 4464);
        x = new TugLines();
        for (int i = 0; i < 40; i++) {
            x.row(2, 0, 40);
            x.set(2, i, 9);
        }
        s.due("the last one set", allAreNought(x, 2), 39);
        x.drop(2);
        s.due("anew behind a drop", x.row(2, 0, 40), 40);
        s.due("all 0 behind a drop", allAreNought(x, 2), 40);
    }

    private static void lowestBits() {
        s.says("ITEM i becomes v, its lowest bits, as many as the LANE has: what it is then.");
        TugLines x = new TugLines();
        int[] values = {0, 1, -1, 127, 128, 255, 256, -128, -129, -256, 32767, 32768, 65535, 65536, -32768, -32769, MAX, MIN};
        int[] bytes = {0, 1, -1, 127, -128, -1, 0, -128, 127, 0, -1, 0, -1, 0, 0, -1, -1, 0};
        int[] shorts = {0, 1, -1, 127, 128, 255, 256, -128, -129, -256, 32767, -32768, -1, 0, -32768, 32767, -1, 0};
        int[][] lanes = {bytes, shorts, values};
        for (int lane = 0; lane < 3; lane++) {
            x.row(lane, lane, 40);
            for (int k = 0; k < values.length; k++) {
                s.due("lane " + lane + ", " + values[k], x.set(lane, 39 - k, values[k]), lanes[lane][k]);
            }
        }
        // What it is then is what is kept: 256 and 99 is a byte of 99, OUT that does not change.
        x = Sentences.told("t60,99;p1,20;");
        x.row(0, 0, 2);
        x.set(0, 0, 256 + 99);
        x.set(0, 1, 98);
        s.due("kept by its lowest bits", x.fits(0, 0, 0, 1, 1) & 2, 2);
        s.due("another one is not that", x.fits(0, 0, 1, 1, 1) & 2, 0);
        x.row(1, 1, 1);
        x.set(1, 0, 65536 * 3 + 99);
        s.due("kept by its lowest bits", x.fits(0, 1, 0, 1, 1) & 2, 2);
        x.row(2, 2, 1);
        x.set(2, 0, 65536 + 99);
        s.due("ints keep all", x.fits(0, 2, 0, 1, 1), 0);
    }

    /** MASS 4, a paddler of 1: OUT is 39, 38, 37 .. from 40 on. By bits: the ITEMS of a ROW that are the 39. */
    private static int thirtyNines(TugLines x, int row, int n) {
        int bits = 0;
        for (int i = 0; i < n; i++) bits |= x.fits(0, row, i, 1, 1) == 2 ? 1 << i : 0;
        return bits;
    }

    private static void copies() {
        s.says("n ITEMS of a from i on come to b from j on, as they were ahead: n.");
        for (int lane = 0; lane < 3; lane++) {
            TugLines x = Sentences.told("t4,40;p1,20;");
            x.row(0, lane, 8);
            x.row(1, lane, 8);
            for (int i : new int[] {0, 1, 4}) x.set(0, i, 39);
            s.due("the 39s", thirtyNines(x, 0, 8), 1 + 2 + 16);
            s.due("over itself, on", x.copy(0, 0, 0, 1, 6), 6);
            s.due("as they were ahead", thirtyNines(x, 0, 8), 1 + 2 + 4 + 32);
            s.due("over itself, back", x.copy(0, 1, 0, 0, 7), 7);
            s.due("as they were ahead", thirtyNines(x, 0, 8), 1 + 2 + 16);
            s.due("onto itself", x.copy(0, 0, 0, 0, 8), 8);
            s.due("as they were", thirtyNines(x, 0, 8), 1 + 2 + 16);
            s.due("to another, to its end", x.copy(0, 1, 1, 5, 3), 3);
            s.due("there", thirtyNines(x, 1, 8), 32);
            s.due("here as before", thirtyNines(x, 0, 8), 1 + 2 + 16);
            s.due("none", x.copy(0, 0, 1, 0, 0), 0);
            s.due("none, at both ends", x.copy(0, 8, 1, 8, 0), 0);
            s.due("there as before", thirtyNines(x, 1, 8), 32);
            s.due("all", x.copy(0, 0, 1, 0, 8), 8);
            s.due("there", thirtyNines(x, 1, 8), 1 + 2 + 16);
        }
        TugLines x = new TugLines();
        x.row(0, 1, 40);
        x.row(1, 1, 40);
        s.due("forty", x.copy(0, 0, 1, 0, 40), 40);
        x.row(2, 1, 0);
        s.due("none of none", x.copy(2, 0, 2, 0, 0), 0);
    }

    private static void drops() {
        s.says("A ROW is missing from now on: how many ITEMS it had.");
        TugLines x = new TugLines();
        for (int n : new int[] {0, 1, 40}) {
            x.row(7, 2, n);
            s.due("had " + n, x.drop(7), n);
            s.due("missing", x.drop(7), NULL);
            s.due("missing for set", x.set(7, 0, 0), NULL);
            s.due("no ROW is there", x.count(0), 0);
        }
        x.row(6, 0, 4);
        x.row(7, 0, 5);
        x.drop(6);
        s.due("the other stays", x.drop(7), 5);
    }

    private static void tape() {
        s.says("THE TAPE has at most 90 bytes, that come one by one");
        TugLines x = new TugLines();
        for (int n = 1; n <= 90; n++) s.due("byte " + n, x.feed(n % 2 == 0 ? 0 : 255), n);
        s.due("the 91st", x.feed('t'), FULL);
        s.due("90 as before", x.count(8), 90);
        s.due("no byte", x.feed(256), BAD);
        s.due("none of them can stand there", x.estuary(), -1000100);
        s.due("room again", x.feed('t'), 1);
        s.says("A byte (0 to 255) comes behind the tape: how many it has.");
        x = new TugLines();
        s.due("0", x.feed(0), 1);
        s.due("255", x.feed(255), 2);
        s.due("below", x.feed(-1), BAD);
        s.due("above", x.feed(256), BAD);
        s.due("two", x.count(8), 2);
        // 'p' and 256: none of its lowest bits is taken instead.
        x = new TugLines();
        Sentences.feed(x, "t1,1;");
        s.due("'p' and 256", x.feed('p' + 256), BAD);
        s.due("five", x.count(8), 5);
    }

    private static void tapeIsReadAndEmpty() {
        s.says("The tape, empty then, is read: how many TUGS there are.");
        for (int tugs = 1; tugs <= 6; tugs++) {
            StringBuilder text = new StringBuilder("t1,1;");
            for (int t = 0; t < tugs; t++) text.append("p1,1;");
            TugLines x = new TugLines();
            s.due("TUGS", Sentences.read(x, text.toString()), tugs);
            s.due("TUGS", x.count(1), tugs);
            s.due("an empty tape", x.count(8), 0);
            s.due("an empty text", x.estuary(), -1000100);
            s.due("TUGS stay", x.count(1), tugs);
        }
        TugLines x = new TugLines();
        s.due("a FAULT", Sentences.read(x, "t1,1;p1,1;q"), -1000111);
        s.due("an empty tape", x.count(8), 0);
        s.due("nothing of it is left ahead of the next", Sentences.read(x, "t1,1;p1,1;"), 1);
    }

    /** What a text is due: how many TUGS, or a FAULT with its number. */
    private static void due(String text, int answer, int number) {
        TugLines x = new TugLines();
        s.due("'" + text + "'", Sentences.read(x, text), answer);
        s.due("fault() of '" + text + "'", x.fault(), number);
        s.due("TUGS of '" + text + "'", x.count(1), Math.max(0, answer));
    }

    private static void faulty(String text, int place, int number) {
        due(text, -1000100 - place, number);
    }

    private static boolean isFigure(int b) {
        return b >= '0' && b <= '9';
    }

    private static void everyByteAtEveryPlace() {
        s.says("TOKENS: letters a to z (each by itself), NUMBERS (figures, 2 at most), SIGNS , and ; nothing else, no"
            + " blanks. estuary: law tug { tug } { pier }. law: t MASS , OUT ;");
        String text = "t5,5;p5,5;q5,5;";
        for (int at = 0; at < text.length(); at++) {
            for (int b = 0; b < 256; b++) {
                String other = text.substring(0, at) + (char) b + text.substring(at + 1);
                if (at % 5 == 0) letterAt(other, at, b);
                else if (at % 5 == 1 || at % 5 == 3) figureAt(other, at, b);
                else signAt(other, at, b, at % 5 == 2 ? ',' : ';');
            }
        }
    }

    private static void letterAt(String text, int at, int b) {
        boolean sort = SORTS.indexOf(b) >= 0;
        if (at == 0 && b == 't' || at == 5 && sort || at == 10 && b == 'q') due(text, 1, 0);
        else if (at == 10 && sort) due(text, 2, 0);
        else faulty(text, at, 1);
    }

    private static void figureAt(String text, int at, int b) {
        if (b == '0' && at != 11) faulty(text, at, 2);
        else if (isFigure(b)) due(text, 1, 0);
        else faulty(text, at, 1);
    }

    /** A figure there makes a run of three (at ','), or one of two (at ';'): too great, but for OUT. */
    private static void signAt(String text, int at, int b, int sign) {
        if (b == sign) due(text, 1, 0);
        else if (isFigure(b) && sign == ',') faulty(text, at - 1, 1);
        else if (isFigure(b) && at == 4) faulty(text, 5, 1);
        else if (isFigure(b)) faulty(text, at - 1, 2);
        else faulty(text, at, 1);
    }

    private static void everyNumber() {
        s.says("law: t MASS , OUT ; (1 to 60; 1 to 99: how far out the THING is)");
        numbers("t", ",7;p7,7;q7,7;", 1, 60, x -> x.count(4));
        numbers("t7,", ";p7,7;q7,7;", 1, 99, x -> x.count(5));
        s.says("1 to 20; 1 to 20; TUGS 0 .. 5, 6 at most");
        for (int k = 0; k < 5; k++) {
            numbers("t7,7;" + SORTS.charAt(k), ",7;q7,7;", 1, 20, x -> x.tug(0, 0));
            numbers("t7,7;" + SORTS.charAt(k) + "7,", ";q7,7;", 1, 20, x -> x.tug(0, 1));
        }
        s.says("pier: q AT , STANDS ; (0 to 98; 1 to 20; PIERS 0 .. 3, 4 at most)");
        numbers("t7,7;p7,7;q", ",7;", 0, 98, x -> x.pier(0, 0));
        numbers("t7,7;p7,7;q7,", ";", 1, 20, x -> x.pier(0, 1));
        s.says("SORT: p a paddler, l a lame one, s a stout one, a a launch, b one with a boy");
        TugLines x = Sentences.told("t7,7;p7,7;l7,7;s7,7;a7,7;b7,7;");
        for (int t = 0; t < 5; t++) s.due("KIND", x.kind(t), t + 1);
    }

    private static void numbers(String ahead, String behind, int low, int high,
            java.util.function.ToIntFunction<TugLines> seen) {
        for (int v = 0; v <= 99; v++) {
            for (String told : new String[] {"" + v, v < 10 ? "0" + v : "" + v}) {
                TugLines x = new TugLines();
                int answer = Sentences.read(x, ahead + told + behind);
                if (v < low || v > high) {
                    s.due(ahead + told, answer, -1000100 - ahead.length());
                    s.due(ahead + told, x.fault(), 2);
                } else {
                    s.due(ahead + told, answer, 1);
                    s.due("what is told by " + ahead + told, seen.applyAsInt(x), v);
                }
            }
        }
    }

    private static void numbersNotAsTold() {
        s.says("2 a NUMBER that is not as told");
        faulty("t0,1;p1,1;q1,1;", 1, 2);
        faulty("t61,1;p1,1;q1,1;", 1, 2);
        faulty("t1,0;p1,1;q1,1;", 3, 2);
        faulty("t1,1;p0,1;q1,1;", 6, 2);
        faulty("t1,1;p21,1;q1,1;", 6, 2);
        faulty("t1,1;p1,0;q1,1;", 8, 2);
        faulty("t1,1;p1,21;q1,1;", 8, 2);
        faulty("t1,1;p1,1;q99,1;", 11, 2);
        faulty("t1,1;p1,1;q1,0;", 13, 2);
        faulty("t1,1;p1,1;q1,21;", 13, 2);
        due("t1,1;p1,1;q0,1;", 1, 0);
        due("t60,99;p20,20;q98,20;", 1, 0);
    }

    private static void tooManyFigures() {
        s.says("a run of three figures, at its first");
        for (String run : new String[] {"000", "001", "010", "100", "999", "0001", "1234", "00000", "123456"}) {
            faulty("t" + run + ",7;p7,7;q7,7;", 1, 1);
            faulty("t7," + run + ";p7,7;q7,7;", 3, 1);
            faulty("t7,7;p" + run + ",7;q7,7;", 6, 1);
            faulty("t7,7;p7," + run + ";q7,7;", 8, 1);
            faulty("t7,7;p7,7;q" + run + ",7;", 11, 1);
            faulty("t7,7;p7,7;q7," + run + ";", 13, 1);
            faulty("t7,7;p7,7;q7," + run, 13, 1);
            faulty(run + "t", 0, 1);
        }
        faulty("t7,7;p7,7;" + "1".repeat(80), 10, 1);
        faulty("1".repeat(90), 0, 1);
    }

    private static void everyEnd() {
        s.says("1 it cannot stand there, or is none (a run of three figures, at its first; the end: how many bytes there"
            + " are)");
        for (int end = 0; end <= LONGEST.length(); end++) {
            String text = LONGEST.substring(0, end);
            // Clauses have 7 bytes each; a law alone is no text yet.
            if (end % 7 == 0 && end >= 14) due(text, Math.min(6, end / 7 - 1), 0);
            else faulty(text, end, 1);
        }
    }

    private static void room() {
        s.says("3 a tug, a pier more than there is room for (its letter)");
        String six = LONGEST.substring(0, 49);
        due(six, 6, 0);
        due(LONGEST, 6, 0);
        for (int b = 0; b < 256; b++) {
            faulty(LONGEST + (char) b, 77, b == 'q' ? 3 : 1);
            if (b == 'q') faulty(six + (char) b, 50, 1);
            else faulty(six + (char) b, 49, SORTS.indexOf(b) >= 0 ? 3 : 1);
        }
        // What is behind the letter is not looked at.
        faulty(six + "p0,0;", 49, 3);
        faulty(six + "p20,20;q98,20;", 49, 3);
        faulty(LONGEST + "q99,99;", 77, 3);
        faulty(LONGEST + "q98,20;q98,20", 77, 3);
        faulty("t1,1;p1,1;q1,1;q1,1;q1,1;q1,1;q1,1;", 30, 3);
        due("t1,1;p1,1;q1,1;q1,1;q1,1;q1,1;", 1, 0);
        faulty("t1,1;p1,1;p1,1;p1,1;p1,1;p1,1;p1,1;p1,1;", 35, 3);
        due("t1,1;p1,1;p1,1;p1,1;p1,1;p1,1;p1,1;", 6, 0);
    }

    private static void theLeastOfOneToken() {
        s.says("FAULTS, the first TOKEN that has one (its first byte), of one TOKEN the least");
        // 1 ahead of 2: a NUMBER that is not as told where none can stand.
        faulty("0", 0, 1);
        faulty("99", 0, 1);
        faulty("t7,7;0", 5, 1);
        faulty("t7,7;p7,7;00", 10, 1);
        faulty("t7,7;p7,7;q7,7;99", 15, 1);
        faulty(LONGEST + "0", 77, 1);
        // 1 ahead of 3: a seventh TUG behind a PIER.
        faulty(LONGEST.substring(0, 56) + "p20,20;", 56, 1);
        faulty(LONGEST + "p", 77, 1);
        // A law again, and a PIER ahead of all TUGS.
        faulty("t7,7;t7,7;", 5, 1);
        faulty("t7,7;p7,7;t7,7;", 10, 1);
        faulty("t7,7;q7,7;p7,7;", 5, 1);
        faulty("t7,7;p7,7;q7,7;p7,7;", 15, 1);
        faulty("p7,7;t7,7;", 0, 1);
    }

    private static void theFirstToken() {
        s.says("the first TOKEN that has one (its first byte)");
        faulty("t61,100;", 1, 2);
        faulty("t7,100;p0,7;", 3, 1);
        faulty("t7,7;p21,0;", 6, 2);
        faulty("t7,7;p20,21;z", 9, 2);
        faulty("t7,7;p7,7;q99,0;", 11, 2);
        faulty("t7,7;p7,7;q98,21", 14, 2);
        faulty("t7,7;p7,7;q98,20", 16, 1);
        faulty("t7,7;p7,7;p7;7;p7,0;", 12, 1);
        faulty("t7,7;p7,7; ", 10, 1);
        faulty("t7,7;p7,7;\n", 10, 1);
        faulty("t7,7;p7,7;\0", 10, 1);
        faulty("T7,7;", 0, 1);
        faulty("t7,7;P7,7;", 5, 1);
        faulty("t-7,7;", 1, 1);
    }

    private static void inPlaceOfTheOneBefore() {
        s.says("An ESTUARY that is read stands in place of the one before (none at first): HOUR 0, all TUGS HOLD, FRAYED"
            + " of all is 0; no ACT can be undone.");
        TugLines x = Sentences.told("t60,99;p9,1;p9,1;p9,20;q50,5;q40,5;");
        x.hours(2);
        x.loose(2);
        x.clear(0);
        s.due("FRAYED ahead", x.tug(0, 2), 2);
        s.due("ACTS ahead", x.count(7), 4);
        s.due("read", Sentences.read(x, "t60,99;p9,1;p9,1;p9,20;q50,5;q40,5;"), 3);
        int[] counts = {0, 3, 2, 0, 60, 99, 7, 0, 0};
        for (int what = 0; what <= 8; what++) s.due("count(" + what + ")", x.count(what), counts[what]);
        for (int t = 0; t < 3; t++) s.due("FRAYED", x.tug(t, 2), 0);
        s.due("STANDS", x.pier(0, 1), 5);
        s.due("undo()", x.undo(), STATE);
        s.due("smaller", Sentences.read(x, "t1,2;b3,4;"), 1);
        int[] smaller = {0, 1, 0, 0, 1, 2, 1, 0, 0};
        for (int what = 0; what <= 8; what++) s.due("count(" + what + ")", x.count(what), smaller[what]);
        s.due("no second TUG", x.kind(1), BAD);
        s.due("no PIER", x.pier(0, 0), BAD);
        s.due("KIND", x.kind(0), 5);
        s.due("PULL", x.tug(0, 0), 3);
        s.due("ROPE", x.tug(0, 1), 4);
    }

    private static void latestFault() {
        s.says("The number of the latest FAULT; 0 before one.");
        TugLines x = new TugLines();
        s.due("before one", x.fault(), 0);
        Sentences.read(x, "t1,1;p1,1;");
        s.due("before one", x.fault(), 0);
        Sentences.read(x, LONGEST.substring(0, 49) + "p");
        s.due("3", x.fault(), 3);
        Sentences.read(x, "t0");
        s.due("2", x.fault(), 2);
        Sentences.read(x, "t1,1;p1,1;");
        s.due("2, though a text without one was read", x.fault(), 2);
        x.estuary();
        s.due("1", x.fault(), 1);
        x.feed(256);
        s.due("1, though a call was refused", x.fault(), 1);
    }
}
