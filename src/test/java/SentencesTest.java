import java.util.function.ToIntFunction;

/**
 * Sentences of the document that are no edge, or that only a whole run shows: who goes when, what is told
 * of one who goes, the order of refusals, and a run of 512 calls. All answers are worked by hand.
 */
public final class SentencesTest {
    private static final Check CHECK = new Check();
    private static final int NONE = DeadLasts.NONE, BAD = DeadLasts.BAD, NOT = DeadLasts.NOT, FULL = DeadLasts.FULL;
    private static final int LEAST = Integer.MIN_VALUE;
    private static final int NULL = -11, INDEX = -12, CAST = -13, STORE = -14, SIZE = -15;

    public static void main(String[] args) {
        aLast();
        oneBehindTheOther();
        onlyThoseWhoWalk();
        inAllSteps();
        behindAStep();
        ofAPerson();
        aPair();
        asking();
        shelves();
        findings();
        refusals();
        plainPromises();
        eachAsIfAlone();
        fiveHundredAndTwelveCalls();
        CHECK.finish();
    }

    /** What one told of each STEP from 0 on is. */
    private static void row(String name, DeadLasts x, int person, int what, int... want) {
        for (int step = 0; step < want.length; step++) {
            CHECK.due(name + ": at(" + step + ", " + person + ", " + what + ")", x.at(step, person, what), want[step]);
        }
    }

    private static void aLast() {
        CHECK.says("LASTS are a text of up to 47 bytes (text 1), 8 at most (0 on), with ; between them: p (plain),"
                + " d (a dancer's) or t (a stranger's), and 1 to 4 letters n, e, s, w, its WAY.");
        DeadLasts x = Check.typed(new DeadLasts(), 1, "pn;dwse;twwww;tes");
        int[][] want = {{0, 1, 0, NONE, NONE, NONE}, {1, 3, 3, 2, 1, NONE}, {2, 4, 3, 3, 3, 3}, {2, 2, 1, 2, NONE, NONE}};
        CHECK.due("how many", x.count(1), 4);
        for (int last = 0; last < 4; last++) {
            for (int what = 0; what < 6; what++) {
                CHECK.due("last(" + last + ", " + what + ")", x.last(last, what), want[last][what]);
            }
        }
    }

    private static void oneBehindTheOther() {
        CHECK.says("In a STEP all that still WALK go one CELL, one behind the other, by numbers: in even STEPS by the"
                + " LEFT, in odd ones by the RIGHT last.");
        String town = "....;....;....;...c";
        String lasts = "pe;ps;pn;pw";
        String[] people = {"00010n", "05230e", "10100w", "15000n"};
        int[][] cells = {{1, 5, 6, 10, 11, 15}, {1, 0, 0, 0, 0, 0}, {14, 15, 15, 15}, {15, 15, 15}};
        int[][] orders = {{0, 1, 2, 3}, {3, 2, 1, 0}, {2, 0, 3, 1}, {1, 3, 0, 2}};
        for (int[] order : orders) {
            StringBuilder text = new StringBuilder();
            for (int who : order) {
                text.append(text.length() == 0 ? "" : ";").append(people[who]);
            }
            DeadLasts x = Check.made(town, lasts, text.toString());
            for (int p = 0; p < 4; p++) {
                row("whatever the order: " + people[order[p]], x, p, 0, cells[order[p]]);
            }
        }
        DeadLasts crowd = Check.made("......", "pe", Check.times(8, "00000w"));
        for (int p = 0; p < 8; p++) {
            row("nobody is in the way of another", crowd, p, 0, 1, 2, 3, 4, 5, 5);
        }
        DeadLasts facing = Check.made("...", "pe;pw", "00000n;02110n");
        row("through one another", facing, 0, 0, 1, 2, 2);
        row("through one another", facing, 1, 0, 1, 0, 0);
    }

    private static void onlyThoseWhoWalk() {
        CHECK.says("In a STEP all that still WALK go one CELL");
        DeadLasts x = Check.made("..c.r", "pe", "00000n;01000n;03000n;02000e;04000w;09000e");
        row("comes in STEP 1", x, 0, 0, 1, 2, 2, 2);
        row("comes in STEP 0", x, 1, 0, 2, 2, 2, 2);
        row("is drowned in STEP 0", x, 2, 0, 4, 4, 4, 4);
        row("had come", x, 3, 0, 2, 2, 2, 2);
        row("was drowned", x, 4, 0, 4, 4, 4, 4);
        row("is lost", x, 5, 0, NONE, NONE, NONE);
        CHECK.due("they went by the last 2, 1 and 1 times", x.worn(0), 4);
    }

    private static void inAllSteps() {
        CHECK.says("In all STEPS WEIGHT (0 at first) becomes more by 2 to the power of how often it is SOLED; if it"
                + " rains then, it becomes 0 instead.");
        // 8 each time, 27 away; rain in an odd and in an even STEP
        int[] weights = {8, 16, 24, 5, 13, 0, 8, 16, 0, 8, 16, 24, 5, 13, 21, 2, 10, 18, 26, 7, 15, 23, 4, 12, 20, 1,
            9, 17, 25, 6};
        String[] feet = {"00", "07", "70", "77"};
        for (String pair : feet) {
            row("in lasts " + pair, Check.made(".", "pn", "00" + pair + "3n", 5, 8), 0, 2, weights);
        }
        row("by the left in even, by the right in odd STEPS", Check.made(".", "pn;pn", "00013n", 5, 8), 0, 3,
                NONE, NONE, NONE, 1, NONE, NONE, NONE, NONE, NONE, NONE, NONE, NONE, 0, NONE, NONE, 1,
                NONE, NONE, NONE, 1, NONE, NONE, 0, NONE, NONE, 1, NONE, NONE, NONE, 1);
    }

    private static void behindAStep() {
        CHECK.says("Behind a STEP of a PERSON: the CELL (NONE: LOST); what it is: 0 it WALKS, 1 it has COME, 2 DROWNED,"
                + " 3 LOST; its WEIGHT; by which last it went in that STEP (NONE: its OWN way, or it did not go).");
        // twice soled: 4 each time, 9 away; own way south, the left last east, the right one north
        DeadLasts x = Check.made("...c;....;....", "pe;pn", "00012s;03012s;11012s;12012s");
        row("its CELL", x, 0, 0, 4, 8, 9, 9, 10, 10, 11, 11, 11, 11, 11, 7, 11, 7, 11);
        row("what it is", x, 0, 1, 0, 0, 0, 0, 0, 0, 0, 0);
        row("its WEIGHT", x, 0, 2, 4, 8, 3, 7, 2, 6, 1, 5, 0, 4, 8, 3, 7, 2, 6);
        row("its last", x, 0, 3, NONE, NONE, 0, NONE, 0, NONE, 0, NONE, 0, NONE, NONE, 1, NONE, 1, NONE);
    }

    private static void ofAPerson() {
        CHECK.says("Of a PERSON: the STEP in which it COMES, is DROWNED (NONE: never, or ahead of STEP 0).");
        DeadLasts x = Check.made("r..c", "pe;pw", "01000n;01110n;02010n;00000n;03000n;04000n");
        int[] comes = {1, NONE, 0, NONE, NONE, NONE};
        int[] drowned = {NONE, 0, NONE, NONE, NONE, NONE};
        for (int p = 0; p < 6; p++) {
            CHECK.due("ends(" + p + ", 0)", x.ends(p, 0), comes[p]);
            CHECK.due("ends(" + p + ", 1)", x.ends(p, 1), drowned[p]);
        }
        CHECK.due("who(0)", x.who(0), 1 + 4 + 16);
        CHECK.due("who(1)", x.who(1), 2 + 8);
    }

    private static void aPair() {
        CHECK.says("PAIR for a PERSON: the LEFT and RIGHT last (that there are), in place of its own, by which it COMES"
                + " soonest (ahead of STEP 0: at once), of like ones the least LEFT, then the least RIGHT: the LEFT one;"
                + " the RIGHT one; in which STEP (NONE: by none, or at once).");
        DeadLasts x = Check.made("...c;.#.r;....", "pe;ps;dw;pne", "06101w;06000n;00000w;03000n;07000n", 0);
        String[] names = {"once soled, north by the left in STEP 2, east by the right in STEP 3",
            "its own way north in STEP 0, east by the right in STEP 1", "its own way into the edge, then east thrice",
            "it had come", "it was drowned"};
        int[][] want = {{3, 0, 3}, {0, 0, 1}, {0, 0, 3}, {0, 0, NONE}, {NONE, NONE, NONE}};
        for (int p = 0; p < 5; p++) {
            for (int what = 0; what < 3; what++) {
                CHECK.due(names[p] + ": pair(" + p + ", " + what + ")", x.pair(p, what), want[p][what]);
            }
        }
    }

    private static void asking() {
        CHECK.says("ASK of a PERSON: the STEP behind which the greatest number of RIGHT lasts that it may have WORE by"
                + " which it is on the like CELL is least, of like ones the least.");
        // ahead of STEP 1 on CELL 3; then by the right ones north, east, south, and five go or stay west
        DeadLasts x = Check.made("...;...;...", "pn;pe;ps;pw", "04770w", 0);
        CHECK.due("all may be", x.wore(0, 1), 255);
        CHECK.due("behind STEP 1 five are on one CELL, and never fewer", x.ask(0), 1);
        x.seen(1, 0, 3);
        CHECK.due("those five", x.wore(0, 1), 8 + 16 + 32 + 64 + 128);
        CHECK.due("they never part", x.ask(0), 0);
        x.seen(0, 0, 4);
        CHECK.due("none may be", x.wore(0, 1), 0);
        CHECK.due("then STEP 0", x.ask(0), 0);
    }

    private static void shelves() {
        CHECK.says("SHELVES by a SEED: of each PERSON a LOT of LASTS is its LEFT, a LOT its RIGHT one (no LOTS where"
                + " there are none): how many COME; how many are DROWNED.");
        // from 7 the LOTS of 4 are 0, 2; 0, 2; 3, 1
        DeadLasts x = Check.made("...c;.#.r;....", "pe;ps;dw;pne", "00000w;06101w;06000n", 0);
        DeadLasts drawn = Check.made("...c;.#.r;....", "pe;ps;dw;pne", "00020w;06021w;06310n", 0);
        CHECK.due("the first comes, in STEP 6", drawn.ends(0, 0), 6);
        CHECK.due("the second is drowned, in STEP 2", drawn.ends(1, 1), 2);
        CHECK.due("the third is drowned, in STEP 4", drawn.ends(2, 1), 4);
        CHECK.due("shelves(7, 0)", x.shelves(7, 0), 1);
        CHECK.due("shelves(7, 1)", x.shelves(7, 1), 2);
        x.wipe(1);
        CHECK.due("no lasts: shelves(7, 0)", x.shelves(7, 0), 0);
        CHECK.due("no lasts: shelves(7, 1)", x.shelves(7, 1), 0);
    }

    private static void found(String name, DeadLasts x, int answer, int number, boolean isGet) {
        CHECK.due(name, answer, isGet ? LEAST : -10 - number);
        CHECK.due(name + ": count(8)", x.count(8), number);
    }

    private static void findings() {
        CHECK.says("FINDINGS (answers -10 less the number; they change nothing but count() 8): 1 NULL: the SHEET is LOST;"
                + " 2 INDEX: there is no such item; 3 CAST: it has another FORM; 4 STORE: unlike FORMS; 5 SIZE: below 0.");
        DeadLasts x = Check.made("..", "pe", "00000n");
        Check.laid(x, 0, 0, 5, 6);
        Check.laid(x, 1, 2, 7, 8);
        found("SIZE of sheet", x, x.sheet(0, 0, -1), 5, false);
        found("NULL of read", x, x.read(3), 1, false);
        found("STORE of copy", x, x.copy(0, 0, 1, 0, 1), 4, false);
        found("NULL of lose", x, x.lose(3), 1, false);
        found("INDEX of lay", x, x.lay(0, 0, 2, 9), 2, false);
        found("NULL of lay", x, x.lay(3, 0, 0, 9), 1, false);
        found("CAST of lay", x, x.lay(1, 0, 0, 9), 3, false);
        found("NULL of get", x, x.get(3, 0, 0), 1, true);
        found("INDEX of get", x, x.get(1, 2, 2), 2, true);
        found("CAST of get", x, x.get(0, 2, 0), 3, true);
        found("NULL of copy, from", x, x.copy(3, 0, 0, 0, 1), 1, false);
        found("INDEX of copy", x, x.copy(0, 1, 0, 0, 2), 2, false);
        found("STORE of copy, the other way", x, x.copy(1, 0, 0, 0, 1), 4, false);
        found("NULL of copy, to", x, x.copy(0, 0, 3, 0, 1), 1, false);
        found("SIZE of another sheet", x, x.sheet(3, 2, LEAST), 5, false);
        found("NULL of write", x, x.write(0, 3), 1, false);
        CHECK.due("as it was: get(0, 0, 0)", x.get(0, 0, 0), 5);
        CHECK.due("as it was: get(0, 0, 1)", x.get(0, 0, 1), 6);
        CHECK.due("as it was: get(1, 2, 0)", x.get(1, 2, 0), 7);
        CHECK.due("as it was: get(1, 2, 1)", x.get(1, 2, 1), 8);
        CHECK.due("as it was: count(6)", x.count(6), 0);
        CHECK.due("as it was: lose(3)", x.lose(3), NULL);
    }

    private static void first(String name, ToIntFunction<DeadLasts> act, int refusal) {
        DeadLasts x = Check.made(Check.times(6, "......"), Check.times(8, "pnesw"), Check.times(8, "00000n"),
                0, 1, 2, 3, 4, 5, 6, 7);
        for (int i = 0; i < 8; i++) {
            x.seen(i, i, i);
        }
        x.sheet(0, 0, 3);
        x.sheet(1, 1, 3);
        CHECK.due(name, act.applyAsInt(x), refusal);
    }

    /** On an object with as much of all as there may be; two things, or all, are wrong at once. */
    private static void refusals() {
        CHECK.says("Refusals, the first that fits, in the order told at each act: BAD -2 (a number not as told, no such"
                + " thing), NULL, NOT -3 (as told), FULL -4, other FINDINGS.");
        first("type: BAD ahead of FULL", x -> x.type(2, 256), BAD);
        first("type: FULL", x -> x.type(2, ';'), FULL);
        first("rain: BAD ahead of FULL", x -> x.rain(30), BAD);
        first("rain: FULL", x -> x.rain(29), FULL);
        first("seen: BAD ahead of FULL", x -> x.seen(0, 0, 36), BAD);
        first("seen: FULL", x -> x.seen(0, 0, 0), FULL);
        first("read: BAD", x -> x.read(4), BAD);
        first("read: NULL, though there are eight", x -> x.read(3), NULL);
        first("sheet: BAD ahead of SIZE", x -> x.sheet(0, 3, -1), BAD);
        first("sheet: SIZE", x -> x.sheet(0, 2, -1), SIZE);
        first("lose: BAD", x -> x.lose(4), BAD);
        first("lose: NULL", x -> x.lose(3), NULL);
        first("lay: BAD ahead of NULL", x -> x.lay(3, 3, -1, 0), BAD);
        first("lay: NULL ahead of INDEX", x -> x.lay(3, 2, -1, 0), NULL);
        first("lay: CAST ahead of INDEX", x -> x.lay(1, 2, -1, 0), CAST);
        first("lay: INDEX", x -> x.lay(1, 1, -1, 0), INDEX);
        first("copy: BAD ahead of NULL", x -> x.copy(3, -1, 4, -1, -1), BAD);
        first("copy: NULL ahead of INDEX", x -> x.copy(3, -1, 0, -1, -1), NULL);
        first("copy: STORE ahead of INDEX", x -> x.copy(1, -1, 0, -1, -1), STORE);
        first("copy: INDEX", x -> x.copy(1, 0, 1, 0, -1), INDEX);
        first("write: BAD ahead of NULL", x -> x.write(8, 3), BAD);
        first("write: NULL", x -> x.write(7, 3), NULL);
        first("get: NULL ahead of INDEX", x -> x.get(3, 2, -1) + x.count(8), LEAST + 1);
        first("get: CAST ahead of INDEX", x -> x.get(1, 2, -1) + x.count(8), LEAST + 3);
        DeadLasts none = new DeadLasts();
        CHECK.due("undo: BAD", none.undo(3), BAD);
        CHECK.due("undo: NOT", none.undo(2), NOT);
        CHECK.due("back: NOT", none.back(), NOT);
    }

    private static void plainPromises() {
        DeadLasts x = Check.made("...c;.#.r;....", "pe;ps;dw;pne", "00000w;06101w;06000n");
        CHECK.says("The CELL as told (what = 0), LEFT (1), RIGHT (2), how often SOLED (3), its OWN way (4) of a PERSON."
                + " BAD.");
        int[] told = {6, 1, 0, 1, 3, BAD};
        for (int what = 0; what < 6; what++) {
            CHECK.due("person(1, " + what + ")", x.person(1, what), told[what]);
        }
        CHECK.due("person(3, 0)", x.person(3, 0), BAD);
        CHECK.says("RIFEST; NONE.");
        CHECK.due("rifest()", x.rifest(), 0);
        CHECK.due("worn 3, 1 and 1 times", x.worn(0), 5);
        CHECK.due("rifest() of none", new DeadLasts().rifest(), NONE);
        CHECK.says("MATCH.");
        CHECK.due("match()", x.match(), 2);
        CHECK.due("match() of none", new DeadLasts().match(), 0);
        CHECK.says("NEVER, as bits.");
        x.rain(0);
        x.rain(1);
        x.seen(3, 1, 11);
        CHECK.due("never()", x.never(), 2);
        CHECK.due("never() of none", new DeadLasts().never(), 0);
        CHECK.says("Item i of it.");
        Check.laid(x, 2, 1, -5, 40000, 7);
        CHECK.due("get(2, 1, 0)", x.get(2, 1, 0), -5);
        CHECK.due("get(2, 1, 1)", x.get(2, 1, 1), 40000 - 65536);
        CHECK.due("get(2, 1, 2)", x.get(2, 1, 2), 7);
    }

    /** Nobody stands in the way of another, and nobody's lasts or soles are another's. */
    private static void eachAsIfAlone() {
        CHECK.says("In a STEP all that still WALK go one CELL, one behind the other, by numbers");
        String town = "...r;.#..;....;.c..";
        String lasts = "pe;ps;dnw;tes;pwws";
        String[] people = {"00010s", "04121w", "08202e", "10233n", "14344w", "00405e", "07570s", "12031n"};
        DeadLasts all = Check.made(town, lasts, String.join(";", people), 2, 7);
        for (int p = 0; p < 8; p++) {
            DeadLasts alone = Check.made(town, lasts, people[p], 2, 7);
            for (int step = 0; step < 30; step++) {
                for (int what = 0; what < 4; what++) {
                    CHECK.due(people[p] + ": at(" + step + ", " + p + ", " + what + ")", all.at(step, p, what),
                            alone.at(step, 0, what));
                }
            }
            for (int what = 0; what < 2; what++) {
                CHECK.due(people[p] + ": ends", all.ends(p, what), alone.ends(0, what));
                CHECK.due(people[p] + ": wore", all.wore(p, what), alone.wore(0, what));
                CHECK.due(people[p] + ": storm", all.storm(3, 9, p, what), alone.storm(3, 9, 0, what));
            }
            for (int what = 0; what < 3; what++) {
                CHECK.due(people[p] + ": pair", all.pair(p, what), alone.pair(0, what));
            }
            CHECK.due(people[p] + ": soles", all.soles(p), alone.soles(0));
            CHECK.due(people[p] + ": ask", all.ask(p), alone.ask(0));
        }
    }

    private static void fiveHundredAndTwelveCalls() {
        CHECK.says("An object is used for at most 512 calls after it has been made");
        DeadLasts x = new DeadLasts();
        int calls = 0;
        String[] texts = {"r.c", "pe", "01000w"};
        for (int text = 0; text < 3; text++) {
            Check.typed(x, text, texts[text]);
            calls += texts[text].length();
        }
        for (; calls + 4 <= 510; calls += 4) {
            CHECK.due("rain in STEP 0", x.rain(0), 1);
            CHECK.due("it is drowned", x.ends(0, 1), 0);
            CHECK.due("undone", x.back(), 0);
            CHECK.due("it comes", x.ends(0, 0), 0);
        }
        for (; calls < 511; calls++) {
            CHECK.due("it still comes", x.who(0), 1);
        }
        CHECK.due("call 512", x.storm(5, 9, 0, 0), 11);
        CHECK.due("calls", calls + 1, 512);
    }
}
