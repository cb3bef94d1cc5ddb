import java.io.IOException;
import java.nio.file.Files;
import java.nio.file.Path;
import java.util.ArrayList;
import java.util.List;
import java.util.regex.Matcher;
import java.util.regex.Pattern;

/** What of ../shared/LANGUAGE.md can be seen in the text: words that are not allowed, sizes, loops. */
public final class LanguageTest {
    private static final String[] FORBIDDEN = {
        "\\bpackage\\b", "\\bthrow\\b", "\\bthrows\\b", "\\btry\\b", "\\bcatch\\b", "\\bfinally\\b", "\\bsynchronized\\b",
        "\\bassert\\b", "\\bprotected\\b", "->", "::", "\\bvar\\b", "\\bObject\\b", "\\bdouble\\b", "\\bfloat\\b",
        "Exact\\b", "\\bRandom\\b", "\\bSystem\\.(?!arraycopy\\b)", "\\bnew\\s+\\w+\\s*\\([^)]*\\)\\s*\\{",
        "\\bstatic\\s*\\{", "\\btransient\\b", "\\bvolatile\\b", "\\bnative\\b", "while\\s*\\(true\\)", "for\\s*\\(;;"};

    public static void main(String[] args) throws IOException {
        Check check = new Check("language");
        String text = Files.readString(Path.of(System.getProperty("main", "src/main/java/TugLines.java")));
        String code = text.replaceAll("(?s)/\\*.*?\\*/", "").replaceAll("//[^\n]*", "");
        for (String forbidden : FORBIDDEN) {
            Matcher m = Pattern.compile(forbidden).matcher(code);
            check.that("there is no " + forbidden, !m.find());
        }
        check.that("all signs are plain ones", text.chars().allMatch(c -> c == '\n' || c >= 32 && c < 127));
        check.that("no library is brought in", !code.contains("import "));
        check.that("at most twelve classes", code.split("\\b(class|record|enum|interface)\\s+\\w+").length - 1 <= 12);
        for (int lines : methodLengths(code)) check.that("a method of " + lines + " lines", lines <= 60);
        Matcher heads = Pattern.compile("\\w+\\s+\\w+\\(([^()]*)\\)\\s*\\{").matcher(code);
        while (heads.find()) check.that(heads.group(), heads.group(1).split(",").length <= 7);
        check.end();
    }

    /** Blocks that begin behind a ')' at the depth of a member of the class, or of a class inside it. */
    private static List<Integer> methodLengths(String code) {
        List<Integer> lengths = new ArrayList<>();
        int since = -1;
        String[] lines = code.split("\n");
        for (int i = 0; i < lines.length; i++) {
            if (lines[i].matches(" {4}( {4})?(public|private|static|void|int|boolean|[A-Z]\\w*)\\b.*\\) \\{")) since = i;
            if (since >= 0 && lines[i].matches(" {4}( {4})?\\}")) {
                lengths.add(i - since + 1);
                since = -1;
            }
        }
        return lengths;
    }
}
