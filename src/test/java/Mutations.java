import java.io.File;
import java.io.IOException;
import java.io.StringWriter;
import java.lang.reflect.Method;
import java.net.URI;
import java.nio.file.Files;
import java.nio.file.Path;
import java.util.ArrayList;
import java.util.Arrays;
import java.util.List;
import java.util.concurrent.ExecutorService;
import java.util.concurrent.Executors;
import java.util.concurrent.TimeUnit;
import java.util.regex.Matcher;
import java.util.regex.Pattern;
import javax.tools.JavaCompiler;
import javax.tools.JavaFileObject;
import javax.tools.SimpleJavaFileObject;
import javax.tools.ToolProvider;

/**
 * No test, a test of the tests: the class with one operator, number or statement another, again and again, against the
 * tests whose answers were worked out by hand. It tells each change that none of them saw. README.md says how to run it.
 */
final class Mutations {
    private static final String[] TESTS = {"RefusalsTest", "TextsTest", "HoursTest", "ForetoldTest", "AsksTest",
        "PromisesTest"};
    private static final String[][] OTHERS = {{"<=", "<", ">"}, {">=", ">", "<"}, {"==", "!="}, {"!=", "=="}, {"&&", "||"},
        {"||", "&&"}, {"++", "--"}, {"+=", "-="}, {"-=", "+="}, {"|=", "&="}, {"&=", "|="}, {"<<", ">>"}, {">>", "<<"},
        {"<", "<=", ">"}, {">", ">=", "<"}, {"+", "-"}, {"-", "+"}, {"*", "+"}, {"/", "*"}, {"%", "/"}, {"&", "|"},
        {"|", "&"}, {"!", ""}, {"~", ""}, {"true", "false"}, {"false", "true"}, {"min", "max"}, {"max", "min"}};
    private static final Pattern TOKEN = Pattern.compile("//[^\n]*|(?s:/\\*.*?\\*/)|'.'|\\b\\d+L?\\b|<=|>=|==|!=|&&|\\|\\||\\+\\+|--"
        + "|\\+=|-=|\\|=|&=|<<|>>|[<>+\\-*/%&|!~]|\\btrue\\b|\\bfalse\\b|\\bmin\\b|\\bmax\\b");
    private static final Pattern STATEMENT = Pattern.compile("(?m)^ {8,}((?!return|int |boolean |long |break|continue|Estuary |Row )"
        + "[^;{}\n]*;|return BAD;|return STATE;|return FULL;|break;)$");

    private Mutations() {
    }

    public static void main(String[] args) throws Exception {
        if (args.length > 0 && args[0].equals("tests")) {
            runTests();
            return;
        }
        String source = Files.readString(Path.of("src/main/java/TugLines.java"));
        List<String> made = new ArrayList<>();
        List<String> told = new ArrayList<>();
        changeTokens(source, made, told);
        changeStatements(source, made, told);
        ExecutorService all = Executors.newFixedThreadPool(Runtime.getRuntime().availableProcessors());
        String[] ends = new String[made.size()];
        for (int m = 0; m < ends.length; m++) {
            int at = m;
            all.submit(() -> ends[at] = endOf(made.get(at), at));
        }
        all.shutdown();
        all.awaitTermination(2, TimeUnit.HOURS);
        int[] sums = new int[3];
        for (int m = 0; m < ends.length; m++) {
            sums["unseen".equals(ends[m]) ? 0 : "seen".equals(ends[m]) ? 1 : 2]++;
            if ("unseen".equals(ends[m])) System.out.println(told.get(m));
        }
        System.out.println(sums[0] + " unseen, " + sums[1] + " seen, " + sums[2] + " do not compile");
    }

    /** In a program of its own, since a test that fails ends it. */
    private static void runTests() throws ReflectiveOperationException {
        for (String test : TESTS) {
            Method main = Class.forName(test).getMethod("main", String[].class);
            main.invoke(null, (Object) new String[0]);
        }
    }

    private static void add(String source, int from, int to, String other, List<String> made, List<String> told) {
        made.add(source.substring(0, from) + other + source.substring(to));
        int line = (int) source.substring(0, from).chars().filter(c -> c == '\n').count() + 1;
        told.add("line " + line + ": '" + source.substring(from, to) + "' to '" + other + "' in "
            + source.split("\n")[line - 1].trim());
    }

    private static void changeTokens(String source, List<String> made, List<String> told) {
        Matcher m = TOKEN.matcher(source);
        while (m.find()) {
            String token = m.group();
            if (token.startsWith("//") || token.startsWith("/*") || token.startsWith("'")) continue;
            if (Character.isDigit(token.charAt(0))) {
                String plain = token.replace("L", "");
                String end = token.endsWith("L") ? "L" : "";
                add(source, m.start(), m.end(), Long.parseLong(plain) + 1 + end, made, told);
                add(source, m.start(), m.end(), "(" + (Long.parseLong(plain) - 1) + end + ")", made, told);
                continue;
            }
            for (String[] others : OTHERS) {
                if (!others[0].equals(token)) continue;
                for (int k = 1; k < others.length; k++) add(source, m.start(), m.end(), others[k], made, told);
            }
        }
    }

    private static void changeStatements(String source, List<String> made, List<String> told) {
        Matcher m = STATEMENT.matcher(source);
        while (m.find()) add(source, m.start(1), m.end(1), ";", made, told);
    }

    private static String endOf(String source, int number) throws IOException, InterruptedException {
        Path out = Files.createTempDirectory("mutation" + number);
        try {
            JavaCompiler compiler = ToolProvider.getSystemJavaCompiler();
            JavaFileObject file = new SimpleJavaFileObject(URI.create("string:///TugLines.java"), JavaFileObject.Kind.SOURCE) {
                @Override public CharSequence getCharContent(boolean ignore) {
                    return source;
                }
            };
            boolean compiled = compiler.getTask(new StringWriter(), null, d -> { }, Arrays.asList("-d", out.toString()), null,
                Arrays.asList(file)).call();
            if (!compiled) return "no class";
            Process p = new ProcessBuilder("java", "-XX:TieredStopAtLevel=1", "-cp",
                out + File.pathSeparator + System.getProperty("java.class.path"), "Mutations", "tests")
                .redirectErrorStream(true).redirectOutput(ProcessBuilder.Redirect.DISCARD).start();
            boolean ended = p.waitFor(60, TimeUnit.SECONDS);
            if (!ended) p.destroyForcibly();
            return ended && p.exitValue() == 0 ? "unseen" : "seen";
        } finally {
            for (File f : out.toFile().listFiles()) Files.delete(f.toPath());
            Files.delete(out);
        }
    }
}
