import java.util.Arrays;

/** The edges of plans, sentence by sentence: Terms 3 and promises 18 to 21. */
public final class PlanEdgesTest {
    private static final Check CHECK = new Check();
    private static final int NONE = DeadLasts.NONE;

    public static void main(String[] args) {
        soonest();
        ofLikeOnes();
        atOnceOrByNone();
        pairsInTheLastStep();
        inPlaceOfItsOwn();
        fewestSoles();
        notDrowned();
        matches();
        matchesOfMany();
        matchesByTheLongestRow();
        dryCounts();
        dryRows();
        dryOfTwoInOne();
        toldNumbers();
        CHECK.finish();
    }

    private static void pair(String name, DeadLasts x, int left, int right, int step) {
        CHECK.due(name + ": pair(0, 0)", x.pair(0, 0), left);
        CHECK.due(name + ": pair(0, 1)", x.pair(0, 1), right);
        CHECK.due(name + ": pair(0, 2)", x.pair(0, 2), step);
    }

    private static void soonest() {
        CHECK.says("the LEFT and RIGHT last (that there are), in place of its own, by which it COMES soonest");
        pair("in STEP 0", Check.made(".c", "pn;pe", "00000n"), 1, 0, 0);
        pair("in STEP 1 by both", Check.made("..c", "pn;pe", "00000n"), 1, 1, 1);
        pair("in STEP 1 by the right one alone", Check.made(".;c", "pn;ps", "00000n", 0), 0, 1, 1);
        pair("a greater pair that is sooner", Check.made("...c", "pne;pe", "00000n"), 1, 1, 2);
        pair("the eighth alone", Check.made("..c", Check.times(7, "pn") + ";pe", "00000n"), 7, 7, 1);
        CHECK.says("(that there are)");
        pair("its own way is no last", Check.made("..c", "pn", "00770e"), NONE, NONE, NONE);
        CHECK.due("though it comes by it", Check.made("..c", "pn", "00770e").ends(0, 0), 1);
    }

    private static void ofLikeOnes() {
        CHECK.says("of like ones the least LEFT, then the least RIGHT");
        pair("all alike", Check.made("...c", Check.times(8, "pe"), "00770n"), 0, 0, 2);
        pair("the least right", Check.made("..c", "pn;pe;pe", "00000n"), 1, 1, 1);
        pair("the right one does not matter", Check.made(".c", "pn;pn;pe;pe", "00330n"), 2, 0, 0);
        pair("the left one does not matter", Check.made(".;c", "pn;pn;ps;ps", "00330n", 0), 0, 2, 1);
        // by 0 and 1 as by 1 and 0: the least left goes ahead
        pair("least left ahead of least right", Check.made("..;.c", "pe;ps", "00000n"), 0, 1, 1);
    }

    private static void atOnceOrByNone() {
        CHECK.says("by which it COMES soonest (ahead of STEP 0: at once)");
        pair("at once", Check.made("c", "pn;pe", "00110n"), 0, 0, NONE);
        pair("at once by the one that there is", Check.made("c", "pn", "00770n"), 0, 0, NONE);
        CHECK.says("in which STEP (NONE: by none, or at once)");
        pair("at once, but no lasts", Check.made("c", "", "00000n"), NONE, NONE, NONE);
        pair("no church", Check.made("..", "pn;pe", "00000n"), NONE, NONE, NONE);
        pair("no town", Check.made("", "pn;pe", "00000n"), NONE, NONE, NONE);
        pair("lost", Check.made("#c", "pn;pe", "00000n"), NONE, NONE, NONE);
        pair("drowned ahead of STEP 0", Check.made("rc", "pn;pe", "00000n"), NONE, NONE, NONE);
        pair("drowned on the way", Check.made(".rc", "pe", "00000n"), NONE, NONE, NONE);
    }

    private static void pairsInTheLastStep() {
        CHECK.says("in which STEP (NONE: by none, or at once)");
        // four times soled, by a last in STEPS 5, 10, 15, 20 and the sixth behind the rain
        for (int rain = 21; rain <= 25; rain++) {
            boolean comes = rain + 6 <= 29;
            pair("rain in " + rain, Check.made(".....c", "pn;pe", "00004n", rain), comes ? 1 : NONE,
                    comes ? 1 : NONE, comes ? rain + 6 : NONE);
        }
    }

    private static void inPlaceOfItsOwn() {
        CHECK.says("in place of its own");
        DeadLasts x = Check.made("..c", "pn;pe", "00000n;01000n;02000n");
        CHECK.due("of the second: left", x.pair(1, 0), 1);
        CHECK.due("of the second: right", x.pair(1, 1), 0);
        CHECK.due("of the second: step", x.pair(1, 2), 0);
        CHECK.due("of the third: step", x.pair(2, 2), NONE);
        CHECK.due("of the first: step", x.pair(0, 2), 1);
        CHECK.due("person(0, 1) is as it was", x.person(0, 1), 0);
        CHECK.due("ends(0, 0) is as it was", x.ends(0, 0), NONE);
        x.soles(0);
        x.match();
        CHECK.due("at(0, 0, 0) is as it was", x.at(0, 0, 0), 0);
        CHECK.due("person(0, 3) is as it was", x.person(0, 3), 0);
    }

    private static void fewestSoles() {
        CHECK.says("SOLES for a PERSON: the fewest (0 to 5), in place of its own, by which it is not DROWNED; NONE.");
        // by so many soles one goes east, out of 30 STEPS, so often: 30, 20, 13, 8, 5, 3
        CHECK.due("three cells: by all drowned", Check.made("...r", "pe", "00000n").soles(0), NONE);
        CHECK.due("four cells", Check.made("....r", "pe", "00000n").soles(0), 5);
        CHECK.due("five cells", Check.made(".....r", "pe", "00005n").soles(0), 5);
        CHECK.due("five cells, rain in 24", Check.made(".....r", "pe", "00000n", 24).soles(0), 4);
        CHECK.due("five cells, rain in 23", Check.made(".....r", "pe", "00000n", 23).soles(0), 5);
        CHECK.due("no river", Check.made("......", "pe", "00005n").soles(0), 0);
        CHECK.due("none at all", Check.made("..r", "pw", "01005e").soles(0), 0);
        // not soled it goes west in STEP 0; soled once it goes its own way east in two STEPS of three
        CHECK.due("by one", Check.made("r.....", "pw", "01070e").soles(0), 1);
    }

    private static void notDrowned() {
        CHECK.says("by which it is not DROWNED");
        CHECK.due("COME is not DROWNED", Check.made("c.r", "pw", "01005e").soles(0), 0);
        CHECK.due("LOST is not DROWNED", Check.made("#r", "pw", "00000e").soles(0), 0);
        CHECK.due("drowned ahead of STEP 0", Check.made("r.", "pe", "00000e").soles(0), NONE);
        CHECK.due("by its own way, without lasts", Check.made(".r", "", "00000e").soles(0), NONE);
        CHECK.due("of the second", Check.made("....r", "pe", "04000n;00000n").soles(1), 5);
    }

    private static void matches() {
        CHECK.says("MATCH: how many PEOPLE at most might COME, each in a LEFT and a RIGHT last alike, no two in the same.");
        CHECK.due("nobody", Check.made("c.", "pw", "").match(), 0);
        CHECK.due("no lasts", Check.made("c.", "", "01000w").match(), 0);
        CHECK.due("nothing at all", new DeadLasts().match(), 0);
        CHECK.due("one in one", Check.made("c.", "pw", "01770n").match(), 1);
        CHECK.due("COME ahead of STEP 0, in a last", Check.made("c", "pw", "00000n").match(), 1);
        CHECK.due("COME ahead of STEP 0, but no lasts", Check.made("c", "", "00000n").match(), 0);
        CHECK.due("in the last alike on both feet alone", Check.made("..;.c", "pe;ps", "00010n").match(), 0);
        CHECK.due("in a last with both ways", Check.made("..;.c", "pes", "00770n").match(), 1);
        for (int rain = 22; rain <= 24; rain++) {
            CHECK.due("rain in " + rain, Check.made(".....c", "pe", "00004n", rain).match(), rain <= 23 ? 1 : 0);
        }
    }

    private static void matchesOfMany() {
        CHECK.says("no two in the same");
        for (int people = 1; people <= 8; people++) {
            for (int lasts = 1; lasts <= 8; lasts++) {
                DeadLasts x = Check.made("c.", Check.times(lasts, "pw"), Check.times(people, "01000n"));
                CHECK.due(people + " people, " + lasts + " lasts", x.match(), Math.min(people, lasts));
            }
        }
        // by the plain one they come from anywhere, by the stranger's from cell 1 alone
        CHECK.due("room is made", Check.made("c....", "pw;tw", "01000n;04000n").match(), 2);
        CHECK.due("room is made, the other way round", Check.made("c....", "tw;pw", "04000n;01000n").match(), 2);
        CHECK.due("no room", Check.made("c....", "pw;tw", "01000n;04000n;04000n").match(), 2);
        DeadLasts x = Check.made("#c#;c.c;#c#", "pn;pe;ps", "04000n;04000n;04000n;04000n");
        CHECK.due("four for three", x.match(), 3);
    }

    /**
     * People 0 to 6 come in the last of their number and in the next one alone, the eighth in last 0
     * alone: for it all the others have to go over to their second one.
     */
    private static void matchesByTheLongestRow() {
        CHECK.says("how many PEOPLE at most might COME");
        String town = "..#...;..#...;c...c.;.#....;......;......";
        String lasts = "pne;pnw;psnn;psnse;pw;pwes;pese;pes";
        String people = "15001s;20001w;00001n;33001n;03001s;01000n;21001n;14001s";
        for (int last = 0; last < 8; last++) {
            DeadLasts x = Check.made(town, lasts, people.replaceAll("00(.[nesw])", "" + last + last + "$1"));
            for (int p = 0; p < 8; p++) {
                boolean comes = p == 7 ? last == 0 : last == p || last == p + 1;
                CHECK.due("COMES, " + p + " in " + last, x.who(0) >> p & 1, comes ? 1 : 0);
            }
        }
        for (int many = 1; many <= 8; many++) {
            String first = people.substring(0, 7 * many - 1);
            CHECK.due("the first " + many, Check.made(town, lasts, first).match(), many);
            String some = String.join(";", Arrays.copyOf(lasts.split(";"), many));
            CHECK.due("all, in the first " + many, Check.made(town, some, people).match(), many);
        }
    }

    private static void dry(String name, DeadLasts x, int many, int first, int second) {
        CHECK.due(name + ": dry(NONE)", x.dry(NONE), many);
        CHECK.due(name + ": dry(0)", x.dry(0), first);
        CHECK.due(name + ": dry(1)", x.dry(1), second);
    }

    /** One who goes east from a cell of a ROW that begins with the river, and west in the rain. */
    private static DeadLasts byTheRiver(String cell, int... rains) {
        return Check.made("r..", "pe", cell + "000w", rains);
    }

    private static void dryCounts() {
        CHECK.says("DRY: the fewest RAINS (0 to 2) that had better not be, so that nobody is DROWNED");
        dry("no rain", byTheRiver("01"), 0, NONE, NONE);
        dry("rain that does not matter", byTheRiver("02", 3, 9), 0, NONE, NONE);
        dry("one", byTheRiver("02", 3, 4), 1, 0, NONE);
        dry("two", byTheRiver("02", 3, 4, 13, 14), 2, 0, 2);
        dry("three would be needed", byTheRiver("02", 3, 4, 13, 14, 23, 24), NONE, NONE, NONE);
        dry("drowned whatever the rain", byTheRiver("00", 3), NONE, NONE, NONE);
        dry("drowned without any", byTheRiver("00"), NONE, NONE, NONE);
        dry("nobody", Check.made("r..", "pe", "", 0), 0, NONE, NONE);
        dry("nobody and nothing", new DeadLasts(), 0, NONE, NONE);
        dry("in STEP 29", byTheRiver("02", 28, 29), 1, 0, NONE);
        dry("one of two people", Check.made("r..", "pe", "02000w;01000w", 0), 1, 0, NONE);
        dry("one for both people", Check.made("r..;...;..r", "pe;pw", "01000w;07110e", 0, 9, 4), 1, 0, NONE);
        dry("two for two people", Check.made("r..", "pe", "01000w;02000w", 0, 14, 15), 2, 0, 1);
    }

    private static void dryRows() {
        CHECK.says("of like ones the least row (each more than the one ahead): how many; the i-th; NONE");
        dry("either of two", byTheRiver("02", 4, 5), 1, 0, NONE);
        dry("the second of two", byTheRiver("01", 9, 0), 1, 1, NONE);
        dry("the middle one of three", byTheRiver("02", 4, 5, 6), 1, 1, NONE);
        dry("the eighth alone", byTheRiver("01", 9, 9, 9, 9, 9, 9, 9, 0), 1, 7, NONE);
        dry("the last two", byTheRiver("01", 9, 9, 9, 9, 9, 9, 0, 0), 2, 6, 7);
        dry("the first and the last", byTheRiver("01", 0, 9, 9, 9, 9, 9, 9, 0), 2, 0, 7);
        dry("numbers of RAINS, not of STEPS", byTheRiver("02", 20, 10, 11, 21), 2, 0, 1);
        dry("the least second one", byTheRiver("02", 4, 5, 14, 15), 2, 0, 2);
        // in STEPS 4, 5, 6, 7 two must go: 4 and 6 leave 5 and 7, which do not harm
        dry("four on end", byTheRiver("02", 4, 5, 6, 7), 2, 0, 2);
        dry("four on end, told backward", byTheRiver("02", 7, 6, 5, 4), 2, 0, 2);
        dry("five on end", byTheRiver("02", 4, 5, 6, 7, 8), 2, 1, 3);
        dry("six on end", byTheRiver("02", 4, 5, 6, 7, 8, 9), NONE, NONE, NONE);
    }

    private static void dryOfTwoInOne() {
        CHECK.says("STEPS in which it rains (two in one are one)");
        dry("one in STEP 0", byTheRiver("01", 0), 1, 0, NONE);
        dry("two in STEP 0", byTheRiver("01", 0, 0), 2, 0, 1);
        dry("three in STEP 0", byTheRiver("01", 0, 0, 0), NONE, NONE, NONE);
    }

    private static void toldNumbers() {
        CHECK.says("PAIR: the LEFT (what = 0), the RIGHT (1), in which STEP (2); NONE. BAD.");
        CHECK.due("pair(0, 0) of nobody", new DeadLasts().pair(0, 0), DeadLasts.BAD);
        CHECK.due("soles(0) of nobody", new DeadLasts().soles(0), DeadLasts.BAD);
        for (int many = 1; many <= 8; many++) {
            DeadLasts x = Check.made("..c", "pe", Check.times(many, "00000n"));
            CHECK.says("PAIR: the LEFT (what = 0), the RIGHT (1), in which STEP (2); NONE. BAD.");
            CHECK.range("pair(0, what)", what -> x.pair(0, what), 0, 2);
            CHECK.range("pair(person, 2)", person -> x.pair(person, 2), 0, many - 1);
            CHECK.says("SOLES; NONE. BAD.");
            CHECK.range("soles", x::soles, 0, many - 1);
        }
        CHECK.says("DRY: how many (i = NONE), the i-th (0, 1; NONE); NONE. BAD.");
        CHECK.range("dry", byTheRiver("01", 0)::dry, -1, 1);
        CHECK.range("dry of nothing", new DeadLasts()::dry, -1, 1);
        CHECK.range("dry where none will do", byTheRiver("00")::dry, -1, 1);
    }
}
