/** Promises 18 to 21: pair, soles, match, dry. */
public final class PlansTest {
    private static final Check CHECK = new Check();

    public static void main(String[] args) {
        pairs();
        soles();
        matches();
        dry();
        CHECK.finish();
    }

    private static void pair(String name, DeadLasts x, int person, int left, int right, int step) {
        CHECK.due(name + ": left", x.pair(person, 0), left);
        CHECK.due(name + ": right", x.pair(person, 1), right);
        CHECK.due(name + ": step", x.pair(person, 2), step);
    }

    private static void pairs() {
        pair("both east", Check.made("...c", "pw;pe", "00000n"), 0, 1, 1, 2);
        pair("of like ones the least", Check.made("...c", "pe;pe", "00110n"), 0, 0, 0, 2);
        pair("the least right", Check.made(".c", "pw;pe", "00000n"), 0, 1, 0, 0);
        // by the left alone in STEP 2, sooner by both in STEP 1
        pair("sooner goes ahead", Check.made("..c", "pe;pn", "00110w"), 0, 0, 0, 1);
        pair("a later pair sooner", Check.made("..c", "pn;pe", "00000n"), 0, 1, 1, 1);
        pair("by none", Check.made("..", "pe", "00000n"), 0, -1, -1, -1);
        pair("drowned at once", Check.made("rc", "pe", "00000n"), 0, -1, -1, -1);
        pair("at once", Check.made("c", "pe;pw", "00110n"), 0, 0, 0, -1);
        pair("at once without lasts", Check.made("c", "", "00110n"), 0, -1, -1, -1);
        pair("its own way, but no lasts", Check.made(".c", "", "00110e"), 0, -1, -1, -1);
        pair("in the rain", Check.made("...c", "pw;pe", "00000n", 0), 0, 1, 1, 3);
        pair("soled as it is", Check.made("...c", "pw;pe", "00001n"), 0, 1, 1, 4);
        pair("lost", Check.made("#c", "pe", "00000n"), 0, -1, -1, -1);
        DeadLasts x = Check.made("...c", "pw;pe", "00000n;02000n");
        pair("another person", x, 1, 1, 0, 0);
        CHECK.due("its own lasts are as they were", x.at(0, 1, 0), 1);
        CHECK.due("pair(2, 0)", x.pair(2, 0), DeadLasts.BAD);
        CHECK.due("pair(-1, 0)", x.pair(-1, 0), DeadLasts.BAD);
        CHECK.due("pair(0, 3)", x.pair(0, 3), DeadLasts.BAD);
        CHECK.due("pair(0, -1)", x.pair(0, -1), DeadLasts.BAD);
    }

    private static void soles() {
        DeadLasts x = Check.made("r..", "pw", "01000e;00000e;02000e;09000e");
        // not soled: west at once; once: east, west, west; twice: never two wests on end
        CHECK.due("soles(0)", x.soles(0), 2);
        CHECK.due("drowned ahead of STEP 0", x.soles(1), -1);
        CHECK.due("soles(2)", x.soles(2), 2);
        CHECK.due("lost", x.soles(3), 0);
        CHECK.due("its own soles are as they were", x.ends(0, 1), 0);
        CHECK.due("its own way leads there", Check.made("r..", "pe", "01004w").soles(0), 0);
        CHECK.due("always drowned", Check.made("r.r", "pe", "01000w").soles(0), -1);
        // only with no soles does it go east ahead of the river
        CHECK.due("those who come do not drown", Check.made("r.c", "pe", "01005w").soles(0), 0);
        CHECK.due("soles(4)", x.soles(4), DeadLasts.BAD);
        CHECK.due("soles(-1)", x.soles(-1), DeadLasts.BAD);
    }

    private static void matches() {
        CHECK.due("nobody", Check.made("c.", "pw", "").match(), 0);
        CHECK.due("no lasts", Check.made("c.", "", "01000w").match(), 0);
        CHECK.due("two for one last", Check.made("c.", "pw;pe", "01000n;01000n").match(), 1);
        CHECK.due("two for two lasts", Check.made("c.", "pw;pe;pw", "01000n;01000n").match(), 2);
        // person 0 may go in both, person 1 in the plain one alone
        DeadLasts x = Check.made("c....", "pw;tw", "01000n;04000n");
        CHECK.due("one makes room", x.match(), 2);
        DeadLasts y = Check.made("c....", "tw;pw", "01000n;04000n");
        CHECK.due("either way round", y.match(), 2);
        CHECK.due("one at once needs a last too", Check.made("c", "pe", "00000n;00000n").match(), 1);
        CHECK.due("both feet alike", Check.made("..;.c", "pe;ps", "00010n").match(), 0);
        CHECK.due("though it comes in a pair", Check.made("..;.c", "pe;ps", "00010n").who(0), 1);
        DeadLasts z = Check.made("c.", "pw;pw;pw;pw;pw;pw;pw;pw",
                "01000n;01000n;01000n;01000n;01000n;01000n;01000n;01000n");
        CHECK.due("eight for eight", z.match(), 8);
    }

    private static void dry(String name, DeadLasts x, int many, int first, int second) {
        CHECK.due(name + ": how many", x.dry(-1), many);
        CHECK.due(name + ": the first", x.dry(0), first);
        CHECK.due(name + ": the second", x.dry(1), second);
    }

    private static DeadLasts byTheRiver(String cell, int... rains) {
        return Check.made("r..", "pe", cell + "000w", rains);
    }

    private static void dry() {
        dry("no rain", byTheRiver("01"), 0, -1, -1);
        dry("rain that drowns nobody", byTheRiver("02", 3, 9), 0, -1, -1);
        dry("one rain", byTheRiver("01", 0), 1, 0, -1);
        dry("the second of two", byTheRiver("01", 5, 0), 1, 1, -1);
        dry("two in one", byTheRiver("01", 0, 0), 2, 0, 1);
        dry("two in one behind another", byTheRiver("01", 9, 0, 0), 2, 1, 2);
        dry("three in one", byTheRiver("01", 0, 0, 0), -1, -1, -1);
        dry("either of two: the least", byTheRiver("02", 4, 5), 1, 0, -1);
        dry("the middle one", byTheRiver("02", 4, 5, 6), 1, 1, -1);
        dry("either of two, told late first", byTheRiver("02", 5, 4), 1, 0, -1);
        dry("two runs of rain", byTheRiver("02", 4, 5, 14, 15), 2, 0, 2);
        dry("three runs of rain", byTheRiver("02", 4, 5, 14, 15, 24, 25), -1, -1, -1);
        dry("drowned ahead of STEP 0", byTheRiver("00", 3), -1, -1, -1);
        dry("drowned in the dry too", Check.made("r..", "pw", "01000w", 0), -1, -1, -1);
        dry("nobody", new DeadLasts(), 0, -1, -1);
        DeadLasts x = byTheRiver("01", 0);
        CHECK.due("dry(2)", x.dry(2), DeadLasts.BAD);
        CHECK.due("dry(-2)", x.dry(-2), DeadLasts.BAD);
        CHECK.due("the rain is as it was", x.count(6), 1);
        CHECK.due("and it drowns", x.ends(0, 1), 0);
    }
}
