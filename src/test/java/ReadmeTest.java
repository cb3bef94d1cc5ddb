import java.io.IOException;
import java.lang.reflect.Method;
import java.nio.file.Files;
import java.nio.file.Path;
import java.util.ArrayList;
import java.util.Arrays;
import java.util.List;
import java.util.TreeSet;
import java.util.regex.Matcher;
import java.util.regex.Pattern;

/** Plays the calls of README.md in their order: each answers what the README says behind it. */
public final class ReadmeTest {
    private static final Pattern MADE = Pattern.compile("TugLines x = new TugLines\\(\\);");
    private static final Pattern TEXT = Pattern.compile("String text = \"([^\"]*)\";");
    private static final Pattern FED = Pattern.compile("\\s*x\\.feed\\(text\\.charAt\\(i\\)\\);");
    private static final Pattern CALL = Pattern.compile("x\\.(\\w+)\\(([-0-9, ]*)\\); *// (-?\\d+|NONE|BAD|STATE|FULL)\\b.*");

    private static final Check check = new Check("the README");
    private static final TreeSet<String> called = new TreeSet<>();

    public static void main(String[] args) throws IOException, ReflectiveOperationException {
        TugLines x = null;
        String text = "";
        for (String line : linesOfJava(Path.of("README.md"))) {
            Matcher told = TEXT.matcher(line);
            if (MADE.matcher(line).matches()) {
                x = new TugLines();
            } else if (told.matches()) {
                text = told.group(1);
            } else if (FED.matcher(line).matches()) {
                Sentences.feed(x, text);
                called.add("feed");
            } else if (!line.matches("for \\(int i = 0; i < text\\.length\\(\\); i\\+\\+\\) \\{|\\}")) {
                play(x, line);
            }
        }
        everyCallIsTold();
        check.end();
    }

    private static List<String> linesOfJava(Path readme) throws IOException {
        List<String> lines = new ArrayList<>();
        boolean java = false;
        for (String line : Files.readAllLines(readme)) {
            if (line.startsWith("```")) {
                java = line.equals("```java");
            } else if (java) {
                lines.add(line);
            }
        }
        return lines;
    }

    private static void play(TugLines x, String line) throws ReflectiveOperationException {
        Matcher call = CALL.matcher(line);
        check.that("a call with its answer: " + line, call.matches());
        if (!call.matches()) return;
        String[] told = call.group(2).isBlank() ? new String[0] : call.group(2).split(", ");
        Class<?>[] types = new Class<?>[told.length];
        Arrays.fill(types, int.class);
        Object[] given = Arrays.stream(told).map(Integer::valueOf).toArray();
        Method method = TugLines.class.getMethod(call.group(1), types);
        called.add(method.getName());
        check.due(line, (Integer) method.invoke(x, given), number(call.group(3)));
    }

    private static int number(String answer) throws ReflectiveOperationException {
        return Character.isLetter(answer.charAt(0)) ? TugLines.class.getField(answer).getInt(null) : Integer.parseInt(answer);
    }

    /** All but fault(), which the README names where a text is read. */
    private static void everyCallIsTold() {
        called.add("fault");
        for (Method m : TugLines.class.getDeclaredMethods()) {
            boolean open = java.lang.reflect.Modifier.isPublic(m.getModifiers());
            check.that("the README tells of " + m.getName(), !open || called.contains(m.getName()));
        }
    }
}
