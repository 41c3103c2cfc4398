import java.lang.reflect.Constructor;
import java.lang.reflect.Field;
import java.lang.reflect.Method;
import java.lang.reflect.Modifier;
import java.nio.file.Files;
import java.nio.file.Path;
import java.util.Arrays;
import java.util.Set;
import java.util.TreeSet;
import java.util.regex.Matcher;
import java.util.regex.Pattern;

/** The rules of LANGUAGE.md that can be looked at from outside: the face, and what the file uses. */
public final class LanguageTest {
    private static final Check CHECK = new Check();
    private static final String CALLS = "type wipe undo fault cell last person rain back read at ends who met worn"
            + " rifest pair soles match dry seen forget never wore ask storm shelves sheet lose lay get copy write"
            + " count digest";

    public static void main(String[] args) throws Exception {
        face();
        inside();
        text(Files.readString(Path.of("src/main/java/DeadLasts.java")));
        CHECK.finish();
    }

    private static void face() {
        int mods = DeadLasts.class.getModifiers();
        CHECK.yes("public and final", Modifier.isPublic(mods) && Modifier.isFinal(mods));
        Set<String> calls = new TreeSet<>(Arrays.asList(CALLS.split(" ")));
        Set<String> found = new TreeSet<>();
        for (Method m : DeadLasts.class.getDeclaredMethods()) {
            if (Modifier.isPrivate(m.getModifiers())) {
                CHECK.yes("no private method is named " + m.getName(), !calls.contains(m.getName()));
            } else {
                found.add(m.getName());
                CHECK.yes(m.getName() + " is public", Modifier.isPublic(m.getModifiers()));
            }
        }
        CHECK.yes("the calls are those of the document: " + found, found.equals(calls));
        Set<String> constants = new TreeSet<>();
        for (Field f : DeadLasts.class.getDeclaredFields()) {
            if (!Modifier.isPrivate(f.getModifiers())) {
                constants.add(f.getName());
            }
        }
        CHECK.yes("the constants: " + constants, constants.equals(Set.of("NONE", "BAD", "NOT", "FULL")));
        Constructor<?>[] made = DeadLasts.class.getDeclaredConstructors();
        CHECK.yes("one public constructor", made.length == 1 && Modifier.isPublic(made[0].getModifiers())
                && made[0].getParameterCount() == 0);
    }

    private static void inside() {
        Set<String> calls = new TreeSet<>(Arrays.asList(CALLS.split(" ")));
        Class<?>[] classes = DeadLasts.class.getDeclaredClasses();
        CHECK.yes("some twelve classes", classes.length + 1 <= 12);
        for (Class<?> c : classes) {
            CHECK.yes(c + " is static", Modifier.isStatic(c.getModifiers()));
            CHECK.yes(c + " is not of the face", !Modifier.isPublic(c.getModifiers())
                    && !Modifier.isProtected(c.getModifiers()));
            for (Method m : c.getDeclaredMethods()) {
                CHECK.yes("no call is named " + m, !calls.contains(m.getName()));
            }
            fields(c);
        }
        fields(DeadLasts.class);
    }

    private static void fields(Class<?> c) {
        int own = 0;
        for (Field f : c.getDeclaredFields()) {
            if (Modifier.isStatic(f.getModifiers())) {
                CHECK.yes(f + " is final", Modifier.isFinal(f.getModifiers()));
            } else {
                own++;
            }
        }
        CHECK.yes("some twenty fields of " + c, own <= 20);
        for (Method m : c.getDeclaredMethods()) {
            CHECK.yes("seven parameters at most: " + m, m.getParameterCount() <= 7);
        }
    }

    private static void text(String source) {
        String code = source.replaceAll("(?s)/\\*.*?\\*/", " ").replaceAll("//[^\\n]*", " ")
                .replaceAll("\"[^\"\\n]*\"", "\"\"");
        for (String word : "throw throws try catch finally synchronized assert import package native volatile".split(" ")) {
            CHECK.yes("no " + word, !Pattern.compile("\\b" + word + "\\b").matcher(code).find());
        }
        for (String sign : new String[] {"->", "::", "Exact(", "@", "String.format", "System.out", "Random", "Thread"}) {
            CHECK.yes("no " + sign, !code.contains(sign));
        }
        CHECK.yes("no static block", !Pattern.compile("static\\s*\\{").matcher(code).find());
        Matcher library = Pattern.compile("\\b(System|Math|Integer|Long|Arrays)\\.(\\w+)").matcher(code);
        while (library.find()) {
            CHECK.yes("the library: " + library.group(), Set.of("arraycopy", "min", "max", "MIN_VALUE", "MAX_VALUE")
                    .contains(library.group(2)));
        }
        lengths(source.split("\n"));
    }

    /** Methods stay short: a method of the file begins and ends at one of two depths. */
    private static void lengths(String[] lines) {
        int begins = -1;
        for (int i = 0; i < lines.length; i++) {
            if (lines[i].matches("( {4}| {8})(public|private|static|int|long|boolean|char|void|[A-Z]\\w*)\\b.*\\(.*\\{")) {
                begins = i;
            } else if (lines[i].matches("( {4}| {8})\\}") && begins >= 0) {
                CHECK.yes("line " + (begins + 1) + " begins what is too long", i - begins <= 60);
                begins = -1;
            }
            CHECK.yes("line " + (i + 1) + " is too wide", lines[i].length() <= 110);
        }
    }
}
