import java.io.File;
import java.net.URL;
import java.net.URLClassLoader;
import java.nio.file.Files;
import java.nio.file.Path;
import java.util.ArrayList;
import java.util.List;
import java.util.Set;
import java.util.TreeSet;
import java.util.regex.Matcher;
import java.util.regex.Pattern;
import javax.tools.ToolProvider;

/** README.md: its Java, all blocks as one run, is compiled and made, and answers as it says there. */
public final class ReadmeTest {
    private static final Check CHECK = new Check();
    private static final Pattern BLOCK = Pattern.compile("(?s)```java\\n(.*?)```");
    /** A call on a line of its own, with its answer behind it: the number, then : and words. */
    private static final Pattern ANSWERED = Pattern.compile("(x\\.\\w+\\(.*\\)); *// ([^:]+)(:.*)?");
    private static final Pattern CALL = Pattern.compile("\\bx\\.(\\w+)\\(");

    private static final List<String> shown = new ArrayList<>();

    public static void main(String[] args) throws Exception {
        String readme = Files.readString(Path.of("README.md"));
        long[][] answers = run(source(readme));
        CHECK.due("answers in README.md", answers.length, shown.size());
        for (int i = 0; i < answers.length; i++) {
            CHECK.due("README.md: " + shown.get(i), answers[i][0], answers[i][1]);
        }
        allCallsAreShown(readme);
        CHECK.yes("it says how the tests are run", readme.contains(".ci/run"));
        CHECK.finish();
    }

    private static String source(String readme) {
        StringBuilder code = new StringBuilder("public final class ReadmeRun {\n"
                + "static final int NONE = DeadLasts.NONE, BAD = DeadLasts.BAD, NOT = DeadLasts.NOT,"
                + " FULL = DeadLasts.FULL;\n"
                + "public static long[][] answers() {\n"
                + "java.util.List<long[]> answers = new java.util.ArrayList<>();\n");
        Matcher block = BLOCK.matcher(readme);
        while (block.find()) {
            for (String line : block.group(1).split("\n")) {
                code.append(statement(line)).append('\n');
            }
        }
        return code.append("return answers.toArray(new long[0][]);\n}\n}\n").toString();
    }

    private static String statement(String line) {
        Matcher m = ANSWERED.matcher(line);
        if (m.matches()) {
            shown.add(m.group(1));
            return "answers.add(new long[] {" + m.group(1) + ", " + m.group(2) + "});";
        }
        CHECK.yes("an answer stands behind: " + line, !line.startsWith("x."));
        return line;
    }

    private static long[][] run(String source) throws Exception {
        Path dir = Files.createTempDirectory("readme");
        Path file = Files.writeString(dir.resolve("ReadmeRun.java"), source);
        String path = System.getProperty("java.class.path");
        int failed = ToolProvider.getSystemJavaCompiler().run(null, null, null, "-d", dir.toString(), "-cp", path,
                file.toString());
        CHECK.due("README.md compiles", failed, 0);
        if (failed != 0) {
            CHECK.finish();
        }
        long[][] answers;
        try (URLClassLoader loader = new URLClassLoader(new URL[] {dir.toUri().toURL()})) {
            answers = (long[][]) loader.loadClass("ReadmeRun").getMethod("answers").invoke(null);
        }
        for (File made : dir.toFile().listFiles()) {
            made.delete();
        }
        Files.delete(dir);
        return answers;
    }

    private static void allCallsAreShown(String readme) {
        Set<String> named = new TreeSet<>();
        Matcher block = BLOCK.matcher(readme);
        while (block.find()) {
            Matcher call = CALL.matcher(block.group(1));
            while (call.find()) {
                named.add(call.group(1));
            }
        }
        for (java.lang.reflect.Method m : DeadLasts.class.getMethods()) {
            if (m.getDeclaringClass() == DeadLasts.class) {
                CHECK.yes("README.md shows " + m.getName(), named.contains(m.getName()));
            }
        }
    }
}
