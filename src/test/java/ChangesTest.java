import java.util.LinkedHashMap;
import java.util.Map;
import java.util.function.Consumer;
import java.util.function.Supplier;
import java.util.function.ToLongFunction;

/**
 * All promises: whatever was asked before, an answer is that of things as they are now. Each act that
 * changes something comes behind all questions, on one of two like objects; each question behind it is
 * answered by both alike.
 */
public final class ChangesTest {
    private static final Check CHECK = new Check();
    private static final Map<String, Supplier<DeadLasts>> OBJECTS = new LinkedHashMap<>();
    private static final Map<String, Consumer<DeadLasts>> CHANGES = new LinkedHashMap<>();
    private static final Map<String, ToLongFunction<DeadLasts>> QUESTIONS = new LinkedHashMap<>();

    public static void main(String[] args) {
        objects();
        changes();
        questions();
        for (String object : OBJECTS.keySet()) {
            for (String change : CHANGES.keySet()) {
                for (String question : QUESTIONS.keySet()) {
                    look(object, change, question);
                }
            }
        }
        orderOfQuestions();
        CHECK.finish();
    }

    private static void look(String object, String change, String question) {
        DeadLasts asked = OBJECTS.get(object).get();
        QUESTIONS.values().forEach(each -> each.applyAsLong(asked));
        // once more at the end, lest another question has put it out of mind
        QUESTIONS.get(question).applyAsLong(asked);
        CHANGES.get(change).accept(asked);
        DeadLasts unasked = OBJECTS.get(object).get();
        CHANGES.get(change).accept(unasked);
        CHECK.due(object + ": " + question + " behind " + change, QUESTIONS.get(question).applyAsLong(asked),
                QUESTIONS.get(question).applyAsLong(unasked));
    }

    /** What is asked twice, with any other question between, is answered alike. */
    private static void orderOfQuestions() {
        for (String object : OBJECTS.keySet()) {
            for (String first : QUESTIONS.keySet()) {
                for (String second : QUESTIONS.keySet()) {
                    DeadLasts x = OBJECTS.get(object).get();
                    QUESTIONS.get(first).applyAsLong(x);
                    DeadLasts y = OBJECTS.get(object).get();
                    CHECK.due(object + ": " + second + " behind " + first, QUESTIONS.get(second).applyAsLong(x),
                            QUESTIONS.get(second).applyAsLong(y));
                }
            }
        }
    }

    private static DeadLasts withSheets(DeadLasts x) {
        Check.laid(x, 0, 2, 0, 4);
        Check.laid(x, 1, 1, 14, 30);
        return x;
    }

    /** What write brings to a new SHEET, of which no other question knows. */
    private static long written(DeadLasts x, int person) {
        x.sheet(3, 2, 8);
        long h = x.write(person, 3);
        for (int i = 0; i < 8; i++) {
            h = 31 * h + x.get(3, 2, i);
        }
        return h;
    }

    private static void objects() {
        OBJECTS.put("by the river", () -> withSheets(Check.made("r..c", "pe;pw;pn", "01000w;02120w", 0)));
        OBJECTS.put("in much rain", () -> withSheets(Check.made("r..;...", "pe;de", "02000w;01100w", 4, 5, 14, 15)));
        OBJECTS.put("in a town", () -> {
            DeadLasts x = withSheets(Check.made("...c;.#.r;....", "pe;ps;tn;dw", "00012e;08231n;10300w", 3, 3));
            x.seen(2, 1, 4);
            return x;
        });
        OBJECTS.put("in nothing", () -> withSheets(new DeadLasts()));
    }

    private static void changes() {
        CHANGES.put("type(0, ..)", x -> x.type(0, '.'));
        CHANGES.put("a ROW more", x -> Check.typed(x, 0, x.count(0) == 12 ? ";.c.." : ";....;"));
        CHANGES.put("undo(0)", x -> x.undo(0));
        CHANGES.put("wipe(0)", x -> x.wipe(0));
        CHANGES.put("another town", x -> {
            x.wipe(0);
            Check.typed(x, 0, "c..;.r.");
        });
        CHANGES.put("type(1, ..)", x -> x.type(1, 'w'));
        CHANGES.put("undo(1)", x -> x.undo(1));
        CHANGES.put("wipe(1)", x -> x.wipe(1));
        CHANGES.put("other lasts", x -> {
            x.wipe(1);
            Check.typed(x, 1, "pw;pe");
        });
        CHANGES.put("type(2, ..)", x -> x.type(2, ';'));
        CHANGES.put("another PERSON", x -> Check.typed(x, 2, x.count(2) == 0 ? "02000w" : ";02000w"));
        CHANGES.put("another own way", x -> {
            x.undo(2);
            x.type(2, 'e');
        });
        CHANGES.put("wipe(2)", x -> x.wipe(2));
        CHANGES.put("rain(0)", x -> x.rain(0));
        CHANGES.put("rain(1)", x -> x.rain(1));
        CHANGES.put("back()", DeadLasts::back);
        CHANGES.put("read(0)", x -> x.read(0));
        CHANGES.put("read(1)", x -> x.read(1));
        CHANGES.put("seen(0, 0, 0)", x -> x.seen(0, 0, 0));
        CHANGES.put("seen(1, 1, 1)", x -> x.seen(1, 1, 1));
        CHANGES.put("forget()", DeadLasts::forget);
    }

    private static void questions() {
        for (int person = 0; person < 3; person++) {
            int p = person;
            for (int step : new int[] {0, 1, 5, 15, 29}) {
                QUESTIONS.put("at(" + step + ", " + p + ", 0)", x -> x.at(step, p, 0));
                QUESTIONS.put("at(" + step + ", " + p + ", 2)", x -> x.at(step, p, 2));
            }
            for (int what = 0; what < 2; what++) {
                int w = what;
                QUESTIONS.put("ends(" + p + ", " + w + ")", x -> x.ends(p, w));
                QUESTIONS.put("wore(" + p + ", " + w + ")", x -> x.wore(p, w));
                QUESTIONS.put("pair(" + p + ", " + w + ")", x -> x.pair(p, w));
                QUESTIONS.put("storm(5, 2, " + p + ", " + w + ")", x -> x.storm(5, 2, p, w));
            }
            QUESTIONS.put("pair(" + p + ", 2)", x -> x.pair(p, 2));
            QUESTIONS.put("storm(5, 3, " + p + ", 0)", x -> x.storm(5, 3, p, 0));
            QUESTIONS.put("storm(9, 2, " + p + ", 0)", x -> x.storm(9, 2, p, 0));
            QUESTIONS.put("soles(" + p + ")", x -> x.soles(p));
            QUESTIONS.put("ask(" + p + ")", x -> x.ask(p));
            QUESTIONS.put("worn(" + p + ")", x -> x.worn(p));
            QUESTIONS.put("dry(" + (p - 1) + ")", x -> x.dry(p - 1));
            QUESTIONS.put("met(" + p + ")", x -> x.met(p));
            QUESTIONS.put("write(" + p + ", 3)", x -> written(x, p));
        }
        QUESTIONS.put("who(0)", x -> x.who(0));
        QUESTIONS.put("who(1)", x -> x.who(1));
        QUESTIONS.put("rifest()", DeadLasts::rifest);
        QUESTIONS.put("match()", DeadLasts::match);
        QUESTIONS.put("never()", DeadLasts::never);
        QUESTIONS.put("shelves(7, 0)", x -> x.shelves(7, 0));
        QUESTIONS.put("shelves(7, 1)", x -> x.shelves(7, 1));
        QUESTIONS.put("digest()", DeadLasts::digest);
    }
}
