import java.io.IOException;
import java.nio.file.Files;
import java.nio.file.Path;

/** A Check that goes by the document's sentences: each is quoted as it stands there and has answers of its own. */
final class Sentences {
    private final Check check;
    private final String document;
    private String sentence = "";
    private int answers = 1;

    Sentences(String name) {
        check = new Check(name);
        document = plain(documentAt(Path.of(System.getProperty("doc", "../shared/DOC.md"))));
    }

    /** Empty where there is none: then the answers are looked at all the same, but not the quotes. */
    private static String documentAt(Path path) {
        try {
            return Files.readString(path);
        } catch (IOException e) {
            System.out.println("no document at " + path + ": the quotes are not looked at");
            return "";
        }
    }

    private static String plain(String text) {
        return text.replaceAll("\\s+", " ");
    }

    /** What follows is by this sentence. A quote that is not in the document would tell of another one. */
    void says(String quote) {
        endSentence();
        sentence = quote;
        check.that("the document says \"" + quote + "\"", document.isEmpty() || document.contains(plain(quote)));
    }

    void due(String call, long got, long want) {
        answers++;
        check.due("\"" + sentence + "\": " + call, got, want);
    }

    void that(String what, boolean so) {
        answers++;
        check.that("\"" + sentence + "\": " + what, so);
    }

    private void endSentence() {
        check.that("\"" + sentence + "\" has an answer", answers > 0);
        answers = 0;
    }

    void end() {
        endSentence();
        check.end();
    }

    /** A text comes on the tape and is read: what estuary() answers. */
    static int read(TugLines x, String text) {
        feed(x, text);
        return x.estuary();
    }

    static void feed(TugLines x, String text) {
        for (int i = 0; i < text.length(); i++) x.feed(text.charAt(i));
    }

    /** A new object with the ESTUARY of a text; one with a FAULT ends the test, which would show nothing. */
    static TugLines told(String text) {
        TugLines x = new TugLines();
        int answer = read(x, text);
        if (answer < 1) throw new IllegalArgumentException(text + " is not read: " + answer);
        return x;
    }

    /** A ROW of ints. */
    static void tell(TugLines x, int row, int... items) {
        x.row(row, 2, items.length);
        for (int i = 0; i < items.length; i++) x.set(row, i, items[i]);
    }
}
