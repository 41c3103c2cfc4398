/** Promises 27 and 28: storm, shelves. */
public final class ChanceTest {
    private static final Check CHECK = new Check();
    private static final long BAD = Long.MIN_VALUE + 2;

    public static void main(String[] args) {
        storms();
        stormsFollowChanges();
        wrongStorms();
        shelves();
        CHECK.finish();
    }

    private static void storm(String name, DeadLasts x, int c, int last, long above, long below) {
        CHECK.due(name + ": above", x.storm(c, last, 0, 0), above);
        CHECK.due(name + ": below", x.storm(c, last, 0, 1), below);
    }

    private static void storms() {
        DeadLasts x = Check.made("r.c", "pe", "01000w");
        storm("five sixteenths", x, 5, 0, 11, 16);
        storm("of which the rest is nothing", x, 5, 9, 11, 16);
        storm("in lowest terms", x, 4, 9, 3, 4);
        storm("never wet", x, 0, 9, 1, 1);
        storm("always wet", x, 16, 9, 0, 1);
        storm("all but always wet", x, 15, 0, 1, 16);
        x.rain(0);
        storm("in place of rain", x, 4, 9, 3, 4);
        storm("in place of rain, never wet", x, 0, 0, 1, 1);
        DeadLasts y = Check.made("r..c", "pe", "02000w");
        storm("STEP 0 alone", y, 5, 0, 1, 1);
        storm("STEPS 0 and 1", y, 5, 1, 231, 256);
        storm("STEPS 0 to 2", y, 5, 2, 231, 256);
        storm("STEPS 0 to 3", y, 5, 3, 57761, 65536);
        storm("at once", Check.made("c", "pe", "00000w"), 3, 9, 1, 1);
        storm("drowned at once", Check.made("rc", "pe", "00000w"), 3, 9, 0, 1);
        storm("lost", Check.made("#c", "pe", "00000w"), 3, 9, 0, 1);
        storm("never comes", Check.made("..", "pe", "00000w"), 3, 9, 0, 1);
        // one wet STEP on the way and it is drowned
        DeadLasts u = Check.made("rrrrrr;.....c", "pe", "06000n");
        storm("five dry STEPS on end", u, 1, 9, 759375, 1048576);
        storm("three dry STEPS on end", u, 1, 2, 3375, 4096);
    }

    private static void stormsFollowChanges() {
        DeadLasts x = Check.made("r.c", "pe", "01000w");
        storm("as typed", x, 5, 0, 11, 16);
        x.undo(0);
        storm("the church is gone", x, 5, 0, 0, 1);
        x.type(0, 'c');
        storm("the church is back", x, 5, 0, 11, 16);
        x.undo(1);
        x.type(1, 'w');
        storm("another way", x, 5, 0, 0, 1);
        x.undo(2);
        x.type(2, 'e');
        storm("another own way", x, 5, 0, 5, 16);
        storm("another chance", x, 7, 0, 7, 16);
        storm("more steps", x, 7, 1, 7, 16);
    }

    private static void wrongStorms() {
        DeadLasts x = Check.made("r.c", "pe", "01000w");
        CHECK.due("c -1", x.storm(-1, 0, 0, 0), BAD);
        CHECK.due("c 17", x.storm(17, 0, 0, 0), BAD);
        CHECK.due("last -1", x.storm(0, -1, 0, 0), BAD);
        CHECK.due("last 10", x.storm(0, 10, 0, 0), BAD);
        CHECK.due("person -1", x.storm(0, 0, -1, 0), BAD);
        CHECK.due("person 1", x.storm(0, 0, 1, 0), BAD);
        CHECK.due("what -1", x.storm(0, 0, 0, -1), BAD);
        CHECK.due("what 2", x.storm(0, 0, 0, 2), BAD);
    }

    private static void shelves() {
        // by the seed 1 the upper bits are 16838, 38526, 10113, 50283
        DeadLasts x = Check.made("r.c", "pe;pw", "01770n;01770n");
        CHECK.due("one comes", x.shelves(1, 0), 1);
        CHECK.due("one is drowned", x.shelves(1, 1), 1);
        x.wipe(1);
        Check.typed(x, 1, "pe;pw;pn");
        CHECK.due("of three lasts: come", x.shelves(1, 0), 2);
        CHECK.due("of three lasts: drowned", x.shelves(1, 1), 0);
        x.wipe(1);
        CHECK.due("no lasts: come", x.shelves(1, 0), 0);
        x.wipe(2);
        Check.typed(x, 2, "01770e;01770w;01770w");
        CHECK.due("no lasts, own ways: come", x.shelves(1, 0), 1);
        CHECK.due("no lasts, own ways: drowned", x.shelves(1, 1), 2);
        CHECK.due("shelves(0, 2)", x.shelves(0, 2), DeadLasts.BAD);
        CHECK.due("shelves(0, -1)", x.shelves(0, -1), DeadLasts.BAD);
        for (int seed : new int[] {0, 7, -1, Integer.MAX_VALUE, Integer.MIN_VALUE, 123456789}) {
            lots(seed);
        }
    }

    /** Looks at the lots of a seed through the first steps of people in them. */
    private static void lots(int seed) {
        DeadLasts x = Check.made("#.#;r.c;#.#", "pn;pe;pw", "04000n;04000n;04000n;04000n");
        long state = seed & 0xffffffffL;
        int come = 0;
        int drowned = 0;
        for (int p = 0; p < 4; p++) {
            int[] pair = new int[2];
            for (int foot = 0; foot < 2; foot++) {
                state = (1103515245L * state + 12345) & 0xffffffffL;
                pair[foot] = (int) ((state >> 16) % 3);
            }
            DeadLasts one = Check.made("#.#;r.c;#.#", "pn;pe;pw", "04" + pair[0] + pair[1] + "0n");
            come += one.who(0);
            drowned += one.who(1) & 1;
        }
        CHECK.due("shelves(" + seed + ", 0)", x.shelves(seed, 0), come);
        CHECK.due("shelves(" + seed + ", 1)", x.shelves(seed, 1), drowned);
    }
}
