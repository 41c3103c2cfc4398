import java.math.BigInteger;

/** The edges of chance, sentence by sentence: Terms 1 and 4 and promises 27 and 28. */
public final class ChanceEdgesTest {
    private static final Check CHECK = new Check();
    private static final long BAD = Long.MIN_VALUE + 2;

    public static void main(String[] args) {
        stormNumbers();
        refusalsAsLongs();
        sixteenths();
        toldSteps();
        inPlaceOfRain();
        lowestTerms();
        behindTheLastStep();
        ofEachPerson();
        lots();
        noLots();
        seeds();
        shelvesNumbers();
        CHECK.finish();
    }

    private static void storm(String name, DeadLasts x, int c, int last, long above, long below) {
        String call = name + ": storm(" + c + ", " + last + ", 0, ";
        CHECK.due(call + "0)", x.storm(c, last, 0, 0), above);
        CHECK.due(call + "1)", x.storm(c, last, 0, 1), below);
    }

    /** One who comes in STEP 9 if STEPS 0 to 9 are all dry, and is drowned in the first wet one of them. */
    private static DeadLasts tenDrySteps() {
        return Check.made("rrrrrr;.....c", "ps;pe", "06010n");
    }

    private static void stormNumbers() {
        CHECK.says("STORM: c sixteenths, up to last (0 to 9): above, below. BAD. (As the least long.)");
        for (int many = 1; many <= 8; many++) {
            DeadLasts x = Check.made("r.c", "pe", Check.times(many, "01000w"));
            for (int what = 0; what < 2; what++) {
                int asked = what;
                CHECK.range("storm(c, ..)", c -> x.storm(c, 0, 0, asked), 0, 16, BAD);
                CHECK.range("storm(.., last, ..)", last -> x.storm(0, last, 0, asked), 0, 9, BAD);
                CHECK.range("storm(.., person, ..)", person -> x.storm(0, 0, person, asked), 0, many - 1, BAD);
            }
            CHECK.range("storm(.., what)", what -> x.storm(0, 0, 0, what), 0, 1, BAD);
        }
        CHECK.due("storm of nobody", new DeadLasts().storm(0, 0, 0, 0), BAD);
    }

    private static void refusalsAsLongs() {
        CHECK.says("Where the answer is a long, a refusal -x is the least long and x more.");
        CHECK.due("BAD", new DeadLasts().storm(0, 0, 0, 0), Long.MIN_VALUE + 2);
        CHECK.due("BAD with all numbers wrong", new DeadLasts().storm(-1, 10, 8, 2), Long.MIN_VALUE + 2);
    }

    private static void sixteenths() {
        CHECK.says("it rains by c sixteenths (0 to 16), by itself");
        for (int c = 0; c <= 16; c++) {
            long dry = 16 - c;
            for (int last = 0; last <= 9; last++) {
                BigInteger above = BigInteger.valueOf(dry).pow(last + 1);
                BigInteger below = BigInteger.valueOf(16).pow(last + 1);
                BigInteger common = above.gcd(below);
                storm("ten dry STEPS", tenDrySteps(), c, last, above.divide(common).longValueExact(),
                        below.divide(common).longValueExact());
            }
        }
        // the left one east in STEPS 0, 2, .., 8, so that STEP 9 no longer matters
        DeadLasts nine = Check.made("rrrrrr;.....c", "ps;pe", "06100n");
        storm("nine dry STEPS", nine, 1, 8, 38443359375L, 68719476736L);
        storm("nine dry STEPS of ten", nine, 1, 9, 38443359375L, 68719476736L);
        storm("the most there is below", tenDrySteps(), 1, 9, 576650390625L, 1099511627776L);
        storm("never wet", tenDrySteps(), 0, 9, 1, 1);
        storm("always wet", tenDrySteps(), 16, 9, 0, 1);
        storm("always wet in STEP 0", tenDrySteps(), 16, 0, 0, 1);
    }

    private static void toldSteps() {
        CHECK.says("STORM: in each STEP from 0 to a told one (0 to 9)");
        DeadLasts x = Check.made("..c", "pn", "00000e");
        storm("two wet STEPS of STEP 0", x, 8, 0, 0, 1);
        storm("two wet STEPS of STEPS 0 and 1", x, 8, 1, 1, 4);
        storm("two wet STEPS of STEPS 0 to 2", x, 8, 2, 1, 2);
        storm("two wet STEPS of STEPS 0 to 9", x, 8, 9, 1013, 1024);
        DeadLasts y = Check.made(".....c", "pn", "00000e");
        storm("five wet STEPS of four", y, 8, 3, 0, 1);
        storm("five wet STEPS of five", y, 8, 4, 1, 32);
        storm("five wet STEPS of ten", y, 8, 9, 319, 512);
    }

    private static void inPlaceOfRain() {
        CHECK.says("by itself, in place of RAIN");
        DeadLasts x = Check.made("r.c", "pe", "01000w", 0);
        CHECK.due("by the RAIN it is drowned", x.who(1), 1);
        storm("no rain in the storm", x, 0, 0, 1, 1);
        storm("RAIN in eight STEPS", Check.made("..c", "pe", "00000w", 0, 1, 2, 3, 4, 5, 6, 7), 0, 9, 1, 1);
        // behind the told STEP it is dry, whatever the RAIN
        DeadLasts late = Check.made("..c", "pn", "00000e", 20, 21);
        CHECK.due("by the RAIN of STEPS 20 and 21 it comes", late.who(0), 1);
        storm("without it, it does not", late, 0, 9, 0, 1);
        storm("but by two wet STEPS of the storm", late, 8, 1, 1, 4);
    }

    private static void lowestTerms() {
        CHECK.says("FRACTIONS are told in lowest terms, above and below (0 by 1).");
        DeadLasts x = Check.made("r.c", "pe", "01000w");
        long[][] want = {{1, 1}, {15, 16}, {7, 8}, {13, 16}, {3, 4}, {11, 16}, {5, 8}, {9, 16}, {1, 2}, {7, 16},
            {3, 8}, {5, 16}, {1, 4}, {3, 16}, {1, 8}, {1, 16}, {0, 1}};
        for (int c = 0; c <= 16; c++) {
            storm("one dry STEP", x, c, 0, want[c][0], want[c][1]);
            storm("one dry STEP of ten", x, c, 9, want[c][0], want[c][1]);
        }
        CHECK.says("the chance that a PERSON has COME behind STEP 29: a FRACTION");
        storm("come ahead of STEP 0", Check.made("c", "pe", "00000w"), 7, 9, 1, 1);
        storm("drowned ahead of STEP 0", Check.made("r", "pe", "00000w"), 7, 9, 0, 1);
        storm("lost", Check.made("#", "pe", "00000w"), 7, 9, 0, 1);
        storm("no town", Check.made("", "pe", "00000w"), 7, 9, 0, 1);
    }

    private static void behindTheLastStep() {
        CHECK.says("the chance that a PERSON has COME behind STEP 29");
        // five times soled it goes by a last in STEPS 7, 15, 22 and would in 30; rain moves that back
        storm("three cells", Check.made("...c", "pe", "00005n"), 0, 9, 1, 1);
        storm("four cells", Check.made("....c", "pe", "00005n"), 0, 9, 0, 1);
        // rain in STEP 6 at the latest: the first is in STEP 14 at the latest, the third in STEP 29
        storm("three cells, rain in STEPS up to 6", Check.made("...c", "pe", "00005n"), 16, 6, 1, 1);
        storm("three cells, rain in STEPS up to 7", Check.made("...c", "pe", "00005n"), 16, 7, 0, 1);
        storm("three cells, by chance", Check.made("...c", "pe", "00005n"), 8, 7, 1, 2);
    }

    private static void ofEachPerson() {
        CHECK.says("the chance that a PERSON has COME");
        DeadLasts x = Check.made("r.c", "pe;pw", "01000w;01110e;00000e;02000e");
        long[][] want = {{11, 16}, {5, 16}, {0, 1}, {1, 1}};
        for (int round = 0; round < 2; round++) {
            for (int p = 0; p < 4; p++) {
                CHECK.due("storm(5, 0, " + p + ", 0)", x.storm(5, 0, p, 0), want[p][0]);
                CHECK.due("storm(5, 0, " + p + ", 1)", x.storm(5, 0, p, 1), want[p][1]);
            }
        }
        CHECK.due("another c", x.storm(7, 0, 3, 0), 1);
        CHECK.due("of another one", x.storm(7, 0, 0, 0), 9);
        CHECK.due("a third c", x.storm(9, 0, 0, 0), 7);
    }

    /** What shelves must answer, by other arithmetic. */
    private static int[] ends(String town, String lasts, int many, String head, String tail, int people, int seed) {
        int[] ends = new int[2];
        long state = seed;
        for (int p = 0; p < people; p++) {
            int[] lots = new int[2];
            for (int foot = 0; foot < 2; foot++) {
                state = Math.floorMod(1103515245L * Math.floorMod(state, 1L << 32) + 12345, 1L << 32);
                lots[foot] = (int) (state / 65536 % many);
            }
            DeadLasts one = Check.made(town, lasts, head + lots[0] + lots[1] + tail);
            ends[0] += one.who(0);
            ends[1] += one.who(1);
        }
        return ends;
    }

    private static void lots() {
        CHECK.says("LOTS of m: SEED becomes 1103515245 SEED and 12345, as ints that wrap; its upper 16 bits as a number"
                + " from 0 on, modulo m.");
        String ways = "pn;pe;pw;ps;pnn;pee;pww;pss";
        String town = "..r..;.....;c...c;.....;..r..";
        for (int seed : new int[] {0, 1, 7, -1, 2, 65535, 65536, Integer.MAX_VALUE, Integer.MIN_VALUE, 20261118}) {
            for (int many = 1; many <= 8; many++) {
                String lasts = ways.substring(0, many <= 4 ? 3 * many - 1 : 11 + 4 * (many - 4));
                for (int people : new int[] {1, 2, 8}) {
                    DeadLasts x = Check.made(town, lasts, Check.times(people, "12770n"));
                    int[] want = ends(town, lasts, many, "12", "0n", people, seed);
                    String call = people + " people, " + many + " lasts: shelves(" + seed + ", ";
                    CHECK.due(call + "0)", x.shelves(seed, 0), want[0]);
                    CHECK.due(call + "1)", x.shelves(seed, 1), want[1]);
                    CHECK.due("their lasts are as they were", x.person(0, 1), 7);
                }
            }
        }
    }

    private static void noLots() {
        CHECK.says("a LOT its RIGHT one (no LOTS where there are none)");
        DeadLasts x = Check.made("r.c", "", "01000e;01770w;01000w;01000n;00000n");
        for (int seed : new int[] {0, -1, 12345}) {
            CHECK.due("how many COME", x.shelves(seed, 0), 1);
            CHECK.due("how many are DROWNED", x.shelves(seed, 1), 3);
        }
        CHECK.due("nobody comes", Check.made("r.c", "pe", "").shelves(3, 0), 0);
        CHECK.due("nobody is drowned", Check.made("r.c", "pe", "").shelves(3, 1), 0);
        CHECK.due("nothing at all", new DeadLasts().shelves(3, 0), 0);
    }

    private static void seeds() {
        CHECK.says("SEED becomes 1103515245 SEED and 12345, as ints that wrap");
        int[] seeds = {0, 1, -1, Integer.MIN_VALUE};
        int[][] upper = {{0, 54236}, {16838, 38526}, {48697, 4409}, {32768, 21468}};
        for (int i = 0; i < seeds.length; i++) {
            for (int many = 1; many <= 8; many++) {
                for (int last = 0; last < many; last++) {
                    lot(seeds[i], upper[i], last, many);
                }
            }
        }
    }

    /** One comes by this last alone: in these rains, five times soled, by one of its feet alone. */
    private static void lot(int seed, int[] upper, int last, int many) {
        String all = Check.times(many, "pn");
        String lasts = all.substring(0, 3 * last) + "pe" + all.substring(3 * last + 2);
        // by the left foot in STEPS 8, 16, 28; by the right one in STEPS 7, 15, 29
        DeadLasts left = Check.made(".c", lasts, "00775n", 0, 20);
        DeadLasts right = Check.made(".c", lasts, "00775n", 21);
        String call = "shelves(" + seed + ", 0): last " + last + " of " + many;
        CHECK.due(call + " is the LEFT one", left.shelves(seed, 0), upper[0] % many == last ? 1 : 0);
        CHECK.due(call + " is the RIGHT one", right.shelves(seed, 0), upper[1] % many == last ? 1 : 0);
    }

    private static void shelvesNumbers() {
        CHECK.says("SHELVES: how many COME (what = 0), are DROWNED (1). BAD.");
        CHECK.range("shelves", what -> new DeadLasts().shelves(0, what), 0, 1);
        CHECK.range("shelves of some", what -> Check.made("r.c", "pe", "01000w").shelves(-5, what), 0, 1);
    }
}
