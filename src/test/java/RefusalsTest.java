import java.util.List;
import java.util.function.Supplier;
import java.util.function.ToLongFunction;

/**
 * 'Refusals, the first that fits ... They change nothing (FINDINGS but count() 8).' Each act with each
 * of its refusals, on one of two like objects: behind it both tell the same, to the last byte.
 */
public final class RefusalsTest {
    private static final Check CHECK = new Check();
    private static final int BAD = DeadLasts.BAD, NOT = DeadLasts.NOT, FULL = DeadLasts.FULL;
    private static final int LEAST = Integer.MIN_VALUE, MOST = Integer.MAX_VALUE;
    private static final long BAD_LONG = Long.MIN_VALUE + 2;
    private static final int NULL = -11, INDEX = -12, CAST = -13, STORE = -14, SIZE = -15;

    private final String state;
    private final Supplier<DeadLasts> maker;

    private RefusalsTest(String state, Supplier<DeadLasts> maker) {
        this.state = state;
        this.maker = maker;
    }

    public static void main(String[] args) {
        CHECK.says("They change nothing (FINDINGS but count() 8).");
        RefusalsTest fresh = new RefusalsTest("a new object", DeadLasts::new);
        RefusalsTest some = new RefusalsTest("an object", RefusalsTest::some);
        RefusalsTest full = new RefusalsTest("a full object", RefusalsTest::full);
        for (RefusalsTest each : new RefusalsTest[] {fresh, some, full}) {
            each.badTexts();
            each.badSteps();
            each.badPlans();
            each.badSheets();
        }
        fresh.ofNothing();
        some.findings();
        full.fullOnes();
        CHECK.finish();
    }

    /** Two CELLS wide, two people; SHEET 0 of bytes, 1 of shorts, 2 of ints without items, 3 LOST; FINDING 3. */
    private static DeadLasts some() {
        DeadLasts x = Check.made("..;.c;r.", "pes;dn", "00012w;03100e", 0, 3, 3);
        x.seen(0, 0, 0);
        x.seen(4, 1, 3);
        Check.laid(x, 0, 0, 5, -7, 30);
        Check.laid(x, 1, 1, 300, 2);
        x.sheet(2, 2, 0);
        x.lay(0, 1, 0, 0);
        return x;
    }

    private static DeadLasts full() {
        DeadLasts x = Check.made(Check.times(6, ".....c"), Check.times(8, "pnesw"), Check.times(8, "14451e"),
                0, 1, 1, 2, 3, 5, 8, 13);
        for (int i = 0; i < 8; i++) {
            x.seen(i, i, x.at(i, i, 0));
        }
        for (int s = 0; s < 3; s++) {
            Check.laid(x, s, 2, s, -1, LEAST, MOST);
        }
        return x;
    }

    private void refused(String call, ToLongFunction<DeadLasts> act, long refusal, int number) {
        DeadLasts x = maker.get();
        DeadLasts y = maker.get();
        int before = y.count(8);
        CHECK.due(state + ": " + call, act.applyAsLong(x), refusal);
        CHECK.due(state + ": count(8) behind " + call, x.count(8), number == 0 ? before : number);
        List<Long> got = Told.of(x);
        CHECK.yes(state + ": " + call + " changes nothing", got.equals(Told.of(y)));
    }

    private void bad(String call, ToLongFunction<DeadLasts> act) {
        refused(call, act, BAD, 0);
    }

    private void finds(String call, ToLongFunction<DeadLasts> act, int refusal) {
        refused(call, act, refusal, -10 - refusal);
    }

    private void badTexts() {
        for (int n : new int[] {-1, 3, LEAST, MOST}) {
            bad("type(" + n + ", 46)", x -> x.type(n, 46));
            bad("wipe(" + n + ")", x -> x.wipe(n));
            bad("undo(" + n + ")", x -> x.undo(n));
            bad("fault(" + n + ")", x -> x.fault(n));
        }
        for (int text = 0; text < 3; text++) {
            int to = text;
            bad("type(" + text + ", -1)", x -> x.type(to, -1));
            bad("type(" + text + ", 256)", x -> x.type(to, 256));
        }
        bad("cell(-1)", x -> x.cell(-1));
        bad("cell(36)", x -> x.cell(36));
        bad("last(8, 0)", x -> x.last(8, 0));
        bad("last(-1, 0)", x -> x.last(-1, 0));
        bad("last(0, 6)", x -> x.last(0, 6));
        bad("last(0, -1)", x -> x.last(0, -1));
        bad("person(8, 0)", x -> x.person(8, 0));
        bad("person(-1, 0)", x -> x.person(-1, 0));
        bad("person(0, 5)", x -> x.person(0, 5));
        bad("person(0, -1)", x -> x.person(0, -1));
    }

    private void badSteps() {
        bad("rain(-1)", x -> x.rain(-1));
        bad("rain(30)", x -> x.rain(30));
        bad("read(-1)", x -> x.read(-1));
        bad("read(4)", x -> x.read(4));
        bad("at(-1, 0, 0)", x -> x.at(-1, 0, 0));
        bad("at(30, 0, 0)", x -> x.at(30, 0, 0));
        bad("at(0, -1, 0)", x -> x.at(0, -1, 0));
        bad("at(0, 8, 0)", x -> x.at(0, 8, 0));
        bad("at(0, 0, -1)", x -> x.at(0, 0, -1));
        bad("at(0, 0, 4)", x -> x.at(0, 0, 4));
        bad("ends(-1, 0)", x -> x.ends(-1, 0));
        bad("ends(8, 0)", x -> x.ends(8, 0));
        bad("ends(0, -1)", x -> x.ends(0, -1));
        bad("ends(0, 2)", x -> x.ends(0, 2));
        bad("who(-1)", x -> x.who(-1));
        bad("who(2)", x -> x.who(2));
        bad("met(-1)", x -> x.met(-1));
        bad("met(3)", x -> x.met(3));
        bad("worn(-1)", x -> x.worn(-1));
        bad("worn(8)", x -> x.worn(8));
    }

    private void badPlans() {
        for (int person : new int[] {-1, 8}) {
            bad("pair(" + person + ", 0)", x -> x.pair(person, 0));
            bad("soles(" + person + ")", x -> x.soles(person));
            bad("wore(" + person + ", 0)", x -> x.wore(person, 0));
            bad("ask(" + person + ")", x -> x.ask(person));
            bad("seen(0, " + person + ", 0)", x -> x.seen(0, person, 0));
            bad("write(" + person + ", 0)", x -> x.write(person, 0));
            refused("storm(5, 5, " + person + ", 0)", x -> x.storm(5, 5, person, 0), BAD_LONG, 0);
        }
        bad("pair(0, -1)", x -> x.pair(0, -1));
        bad("pair(0, 3)", x -> x.pair(0, 3));
        bad("dry(-2)", x -> x.dry(-2));
        bad("dry(2)", x -> x.dry(2));
        bad("seen(-1, 0, 0)", x -> x.seen(-1, 0, 0));
        bad("seen(30, 0, 0)", x -> x.seen(30, 0, 0));
        bad("seen(0, 0, -1)", x -> x.seen(0, 0, -1));
        bad("seen(0, 0, 36)", x -> x.seen(0, 0, 36));
        bad("wore(0, -1)", x -> x.wore(0, -1));
        bad("wore(0, 2)", x -> x.wore(0, 2));
        refused("storm(-1, 5, 0, 0)", x -> x.storm(-1, 5, 0, 0), BAD_LONG, 0);
        refused("storm(17, 5, 0, 0)", x -> x.storm(17, 5, 0, 0), BAD_LONG, 0);
        refused("storm(5, -1, 0, 0)", x -> x.storm(5, -1, 0, 0), BAD_LONG, 0);
        refused("storm(5, 10, 0, 0)", x -> x.storm(5, 10, 0, 0), BAD_LONG, 0);
        refused("storm(5, 5, 0, -1)", x -> x.storm(5, 5, 0, -1), BAD_LONG, 0);
        refused("storm(5, 5, 0, 2)", x -> x.storm(5, 5, 0, 2), BAD_LONG, 0);
        bad("shelves(1, -1)", x -> x.shelves(1, -1));
        bad("shelves(1, 2)", x -> x.shelves(1, 2));
        bad("count(-1)", x -> x.count(-1));
        bad("count(9)", x -> x.count(9));
    }

    private void badSheets() {
        for (int s : new int[] {-1, 4}) {
            bad("sheet(" + s + ", 0, 1)", x -> x.sheet(s, 0, 1));
            bad("lose(" + s + ")", x -> x.lose(s));
            bad("lay(" + s + ", 0, 0, 9)", x -> x.lay(s, 0, 0, 9));
            refused("get(" + s + ", 0, 0)", x -> x.get(s, 0, 0), LEAST, 0);
            bad("copy(" + s + ", 0, 0, 0, 1)", x -> x.copy(s, 0, 0, 0, 1));
            bad("copy(0, 0, " + s + ", 0, 1)", x -> x.copy(0, 0, s, 0, 1));
            bad("write(0, " + s + ")", x -> x.write(0, s));
        }
        for (int form : new int[] {-1, 3}) {
            bad("sheet(0, " + form + ", 1)", x -> x.sheet(0, form, 1));
            bad("lay(0, " + form + ", 0, 9)", x -> x.lay(0, form, 0, 9));
            refused("get(0, " + form + ", 0)", x -> x.get(0, form, 0), LEAST, 0);
        }
        bad("sheet(0, 0, 61)", x -> x.sheet(0, 0, 61));
        finds("sheet(0, 1, -1)", x -> x.sheet(0, 1, -1), SIZE);
        finds("sheet(3, 1, -1)", x -> x.sheet(3, 1, -1), SIZE);
        finds("lose(3)", x -> x.lose(3), NULL);
        finds("lay(3, 0, 0, 9)", x -> x.lay(3, 0, 0, 9), NULL);
        refused("get(3, 0, 0)", x -> x.get(3, 0, 0), LEAST, 1);
        finds("copy(3, 0, 0, 0, 0)", x -> x.copy(3, 0, 0, 0, 0), NULL);
        finds("copy(0, 0, 3, 0, 0)", x -> x.copy(0, 0, 3, 0, 0), NULL);
        finds("read(3)", x -> x.read(3), NULL);
    }

    /** What is refused where there is nothing. */
    private void ofNothing() {
        CHECK.says("NOT -3 (as told)");
        for (int text = 0; text < 3; text++) {
            int of = text;
            refused("undo(" + text + ")", x -> x.undo(of), NOT, 0);
        }
        refused("back()", DeadLasts::back, NOT, 0);
        CHECK.says("BAD -2 (a number not as told, no such thing)");
        bad("last(0, 0)", x -> x.last(0, 0));
        bad("person(0, 0)", x -> x.person(0, 0));
        bad("at(0, 0, 0)", x -> x.at(0, 0, 0));
        bad("ends(0, 0)", x -> x.ends(0, 0));
        bad("worn(0)", x -> x.worn(0));
        bad("pair(0, 0)", x -> x.pair(0, 0));
        bad("soles(0)", x -> x.soles(0));
        bad("wore(0, 0)", x -> x.wore(0, 0));
        bad("ask(0)", x -> x.ask(0));
        bad("write(0, 0)", x -> x.write(0, 0));
        refused("storm(5, 5, 0, 0)", x -> x.storm(5, 5, 0, 0), BAD_LONG, 0);
    }

    /** FINDINGS at SHEETS that there are. */
    private void findings() {
        CHECK.says("FINDINGS (answers -10 less the number; they change nothing but count() 8)");
        finds("write(0, 3)", x -> x.write(0, 3), NULL);
        finds("lay(0, 2, 0, 9)", x -> x.lay(0, 2, 0, 9), CAST);
        finds("lay(0, 0, 3, 9)", x -> x.lay(0, 0, 3, 9), INDEX);
        finds("lay(0, 0, -1, 9)", x -> x.lay(0, 0, -1, 9), INDEX);
        finds("lay(2, 2, 0, 9)", x -> x.lay(2, 2, 0, 9), INDEX);
        refused("get(0, 1, 0)", x -> x.get(0, 1, 0), LEAST, 3);
        refused("get(0, 0, 3)", x -> x.get(0, 0, 3), LEAST, 2);
        refused("get(1, 1, -1)", x -> x.get(1, 1, -1), LEAST, 2);
        finds("copy(0, 0, 1, 0, 1)", x -> x.copy(0, 0, 1, 0, 1), STORE);
        finds("copy(0, 0, 0, 1, 3)", x -> x.copy(0, 0, 0, 1, 3), INDEX);
        finds("copy(0, 1, 0, 0, 3)", x -> x.copy(0, 1, 0, 0, 3), INDEX);
        finds("copy(0, -1, 0, 0, 2)", x -> x.copy(0, -1, 0, 0, 2), INDEX);
        finds("copy(0, 0, 0, -1, 2)", x -> x.copy(0, 0, 0, -1, 2), INDEX);
        finds("copy(0, 0, 0, 0, -1)", x -> x.copy(0, 0, 0, 0, -1), INDEX);
        finds("sheet(1, 1, -60)", x -> x.sheet(1, 1, -60), SIZE);
        CHECK.says("BAD -2 (a number not as told, no such thing)");
        bad("last(2, 0)", x -> x.last(2, 0));
        bad("person(2, 0)", x -> x.person(2, 0));
        bad("at(0, 2, 0)", x -> x.at(0, 2, 0));
        bad("worn(2)", x -> x.worn(2));
        bad("write(2, 0)", x -> x.write(2, 0));
    }

    private void fullOnes() {
        CHECK.says("FULL -4");
        for (int text = 0; text < 3; text++) {
            int to = text;
            for (int b : new int[] {0, '.', ';', 'n', 255}) {
                refused("type(" + text + ", " + b + ")", x -> x.type(to, b), FULL, 0);
            }
        }
        refused("rain(0)", x -> x.rain(0), FULL, 0);
        refused("rain(29)", x -> x.rain(29), FULL, 0);
        refused("seen(0, 0, 0)", x -> x.seen(0, 0, 0), FULL, 0);
        refused("seen(29, 7, 35)", x -> x.seen(29, 7, 35), FULL, 0);
        CHECK.says("RAIN, 8 at most (0 on)");
        refused("read(0)", x -> x.read(0), 0, 0);
    }
}
