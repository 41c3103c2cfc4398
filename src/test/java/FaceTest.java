import java.lang.reflect.Field;
import java.lang.reflect.Method;
import java.lang.reflect.Modifier;
import java.nio.file.Files;
import java.nio.file.Path;
import java.util.ArrayList;
import java.util.List;
import java.util.TreeSet;
import java.util.regex.Matcher;
import java.util.regex.Pattern;

/** 'The public face' of the document against the class: each line of it, and nothing beside it. */
public final class FaceTest {
    private static final Check CHECK = new Check();
    private static final Pattern CALL = Pattern.compile(" {4}public (int|long) (\\w+)\\((.*)\\);");
    private static final Pattern GROUP =
            Pattern.compile("Ahead of the calls (`.*`) the interface says: (---- .*)\\.");

    public static void main(String[] args) throws Exception {
        String document = Files.readString(Path.of("../shared/DOC.md"));
        String source = Files.readString(Path.of("src/main/java/DeadLasts.java"));
        List<String> calls = calls(document, source);
        CHECK.due("calls of the document", calls.size(), 36 - 1);
        nothingBeside(calls);
        constants();
        order(calls, source);
        groups(document, source);
        signaturesOfPromises(document, source);
        CHECK.finish();
    }

    /** The calls in the document's order; each is in the class as it stands there, with its names. */
    private static List<String> calls(String document, String source) {
        List<String> calls = new ArrayList<>();
        Matcher call = CALL.matcher(document);
        while (call.find()) {
            calls.add(call.group(2));
            String line = call.group().replace(";", " {");
            CHECK.yes("the class has " + line.strip(), source.contains("\n" + line + "\n"));
            found(call.group(2), call.group(1), call.group(3));
        }
        return calls;
    }

    private static void found(String name, String type, String parameters) {
        int many = parameters.isEmpty() ? 0 : parameters.split(",").length;
        int found = 0;
        for (Method m : DeadLasts.class.getDeclaredMethods()) {
            if (m.getName().equals(name)) {
                found++;
                CHECK.yes(name + " answers " + type, m.getReturnType().getName().equals(type));
                CHECK.due(name + ": how many numbers it takes", m.getParameterCount(), many);
                CHECK.yes(name + " is public, not static", m.getModifiers() == Modifier.PUBLIC);
                for (Class<?> parameter : m.getParameterTypes()) {
                    CHECK.yes(name + " takes ints", parameter == int.class);
                }
            }
        }
        CHECK.due("methods named " + name, found, 1);
    }

    private static void nothingBeside(List<String> calls) {
        TreeSet<String> open = new TreeSet<>();
        for (Method m : DeadLasts.class.getDeclaredMethods()) {
            if (!Modifier.isPrivate(m.getModifiers())) {
                open.add(m.getName());
            }
        }
        CHECK.yes("no other calls: " + open, open.equals(new TreeSet<>(calls)));
        CHECK.yes("public final class DeadLasts",
                DeadLasts.class.getModifiers() == (Modifier.PUBLIC | Modifier.FINAL));
        CHECK.yes("it has no class above it", DeadLasts.class.getSuperclass() == Object.class
                && DeadLasts.class.getInterfaces().length == 0);
        CHECK.yes("no package", DeadLasts.class.getPackageName().isEmpty());
        CHECK.due("no public classes inside", DeadLasts.class.getClasses().length, 0);
        CHECK.yes("one constructor, public", DeadLasts.class.getDeclaredConstructors().length == 1
                && DeadLasts.class.getConstructors().length == 1);
    }

    private static void constants() throws Exception {
        String[] names = {"NONE", "BAD", "NOT", "FULL"};
        for (int i = 0; i < names.length; i++) {
            Field f = DeadLasts.class.getField(names[i]);
            CHECK.yes(names[i] + " is public static final int", f.getType() == int.class
                    && f.getModifiers() == (Modifier.PUBLIC | Modifier.STATIC | Modifier.FINAL));
            CHECK.due(names[i], f.getInt(null), -1 - i);
        }
        CHECK.due("no other constants", DeadLasts.class.getFields().length, names.length);
    }

    private static void order(List<String> calls, String source) {
        int at = 0;
        for (String call : calls) {
            Matcher m = Pattern.compile("\n {4}public (int|long) " + call + "\\(").matcher(source);
            CHECK.yes(call + " stands in its order", m.find() && m.start() > at && !m.find());
            at = source.indexOf(" " + call + "(", at);
        }
    }

    /** The lines with ---- are in the class where the document has them, and no others between the calls. */
    private static void groups(String document, String source) {
        List<String> heads = new ArrayList<>();
        Matcher group = GROUP.matcher(document);
        while (group.find()) {
            String first = group.group(1).split("`")[1];
            heads.add(group.group(2));
            Matcher m = Pattern.compile("\n {4}// " + Pattern.quote(group.group(2)) + "\n+ {4}public \\w+ (\\w+)\\(")
                    .matcher(source);
            CHECK.yes("ahead of " + first + ": " + group.group(2), m.find() && m.group(1).equals(first));
        }
        CHECK.due("groups of calls", heads.size(), 5);
        String open = source.substring(0, source.lastIndexOf("\n    public "));
        Matcher head = Pattern.compile("// (----.*)").matcher(open);
        for (String want : heads) {
            CHECK.yes(want + " in its order", head.find() && head.group(1).equals(want));
        }
        CHECK.yes("no others", !head.find());
    }

    /** Each promise names its call as the face does. */
    private static void signaturesOfPromises(String document, String source) {
        Matcher promise = Pattern.compile("\n## Promise (\\d+): (.*)\n\n`(.*?)`: ").matcher(document);
        int many = 0;
        while (promise.find()) {
            many++;
            CHECK.due("promises in their order", Integer.parseInt(promise.group(1)), many);
            CHECK.yes("promise " + many + " is in the class: " + promise.group(3),
                    source.contains("\n    public " + promise.group(3) + " {\n"));
        }
        CHECK.due("promises", many, 36);
    }
}
