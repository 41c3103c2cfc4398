/** The edges of walking, sentence by sentence: Terms 1 and 2 and promises 12 to 17. */
public final class StepEdgesTest {
    private static final Check CHECK = new Check();
    private static final int NONE = DeadLasts.NONE;
    private static final String WAYS = "nesw";
    /**
     * Four times soled and dry, one goes by its lasts in STEPS 5, 10, 15, 20, 25 and would again in 30;
     * rain in STEP r of 21 to 25 makes that 5, 10, 15, 20 and r + 6.
     */
    private static final String SLOW = "00004n";

    public static void main(String[] args) {
        feet();
        weights();
        rainOnWeights();
        noLessThanThreeToThatPower();
        letters();
        dancers();
        strangers();
        ownWays();
        noSuchLast();
        edges();
        walls();
        comingAndDrowning();
        byWhichLast();
        aheadOfStepZero();
        lost();
        theLastStep();
        toldNumbers();
        bits();
        meetings();
        meetingOnlyThoseWhoWalk();
        wearing();
        rifest();
        CHECK.finish();
    }

    /** One goes these ways, STEP by STEP, in a town without walls. */
    private static void goes(String name, DeadLasts x, int start, int width, String ways) {
        int rows = x.count(0) / width;
        int row = start / width;
        int column = start % width;
        for (int step = 0; step < ways.length(); step++) {
            char way = ways.charAt(step);
            row += way == 's' && row + 1 < rows ? 1 : way == 'n' && row > 0 ? -1 : 0;
            column += way == 'e' && column + 1 < width ? 1 : way == 'w' && column > 0 ? -1 : 0;
            CHECK.due(name + ": at(" + step + ", 0, 0)", x.at(step, 0, 0), row * width + column);
        }
    }

    /** Ways of the left foot, with a way between each two that the right one, in no last, goes. */
    private static String between(String ways, char own) {
        StringBuilder all = new StringBuilder();
        for (char way : ways.toCharArray()) {
            all.append(way).append(own);
        }
        return all.toString();
    }

    private static DeadLasts wide(String lasts, String people, int... rains) {
        return Check.made(Check.times(6, "......"), lasts, people, rains);
    }

    private static void feet() {
        CHECK.says("in even STEPS by the LEFT, in odd ones by the RIGHT last");
        DeadLasts x = Check.made(".", "pn;pe;ps", "00210n");
        for (int step = 0; step < 30; step++) {
            CHECK.due("at(" + step + ", 0, 3)", x.at(step, 0, 3), step % 2 == 0 ? 2 : 1);
        }
    }

    private static int power(int base, int exponent) {
        return exponent == 0 ? 1 : base * power(base, exponent - 1);
    }

    private static void weights() {
        CHECK.says("WEIGHT (0 at first) becomes more by 2 to the power of how often it is SOLED");
        for (int soled = 0; soled <= 5; soled++) {
            DeadLasts x = Check.made(".", "pn", "0000" + soled + "n");
            int more = power(2, soled);
            int less = power(3, soled);
            for (int step = 0; step < 30; step++) {
                int all = more * (step + 1);
                CHECK.due(soled + " soles: at(" + step + ", 0, 2)", x.at(step, 0, 2), all % less);
                boolean byLast = all / less > (all - more) / less;
                CHECK.due(soled + " soles: at(" + step + ", 0, 3)", x.at(step, 0, 3), byLast ? 0 : NONE);
            }
        }
    }

    private static void rainOnWeights() {
        CHECK.says("if it rains then, it becomes 0 instead");
        for (int soled = 0; soled <= 5; soled++) {
            for (int rain = 0; rain < 30; rain++) {
                DeadLasts x = Check.made(".", "pn", "0000" + soled + "n", rain);
                for (int step = 0; step < 30; step++) {
                    int all = power(2, soled) * (step < rain ? step + 1 : step - rain);
                    CHECK.due(soled + " soles, rain in " + rain + ": at(" + step + ", 0, 2)", x.at(step, 0, 2),
                            all % power(3, soled));
                }
                CHECK.due(soled + " soles, rain in " + rain + ": by no last", x.at(rain, 0, 3), NONE);
            }
        }
    }

    private static void noLessThanThreeToThatPower() {
        CHECK.says("If it is no less than 3 to that power, it becomes less by that, and the PERSON goes the last's WAY");
        // 1 of 1; 3 of 3 behind 2 of 3; 9 of 9 behind 8 of 9 and 5; 27 of 27 behind 19; 80 of 81
        int[][] likeness = {{0, 0}, {1, 2}, {2, 8}, {3, 26}};
        for (int[] like : likeness) {
            DeadLasts x = Check.made(".", "pn", "0000" + like[0] + "n");
            CHECK.due(like[0] + " soles: as much as it needs", x.at(like[1], 0, 3), 0);
            CHECK.due(like[0] + " soles: nothing is left", x.at(like[1], 0, 2), 0);
        }
        DeadLasts two = Check.made(".", "pn", "00002n");
        CHECK.due("8 is one less than 9", two.at(1, 0, 3), NONE);
        CHECK.due("and stays", two.at(1, 0, 2), 8);
        DeadLasts four = Check.made(".", "pn", "00004n");
        CHECK.due("80 is one less than 81", four.at(4, 0, 3), NONE);
        CHECK.due("80 stays", four.at(4, 0, 2), 80);
        CHECK.due("96 is more", four.at(5, 0, 3), 0);
        CHECK.due("by 15", four.at(5, 0, 2), 15);
    }

    private static void letters() {
        CHECK.says("the next letter of it (of each of both feet by itself the first, second, .., and round");
        String[] left = {"n", "nw", "nws", "nwse"};
        String[] right = {"s", "se", "sen", "senw"};
        for (int l = 0; l < 4; l++) {
            for (int r = 0; r < 4; r++) {
                DeadLasts x = wide("p" + left[l] + ";p" + right[r], "14010n");
                StringBuilder ways = new StringBuilder();
                for (int time = 0; time < 15; time++) {
                    ways.append(left[l].charAt(time % (l + 1))).append(right[r].charAt(time % (r + 1)));
                }
                goes("p" + left[l] + " and p" + right[r], x, 14, 6, ways.toString());
            }
        }
        goes("one last on both feet", wide("pnes", "14000w"), 14, 6, "nneessnneessnneessnneessnneess");
        // rain in STEPS 0, 1 and 4: its own way, and the letters wait
        goes("letters wait", wide("pnes", "14000w", 0, 1, 4), 14, 6, "wwnnweessnneessnneessnneessnne");
    }

    private static void dancers() {
        CHECK.says("of a dancer's, each third time that one goes by it, the way opposite to that letter");
        String[] ways = {"n", "e", "s", "w", "ne", "nes", "nesw"};
        String[] gone = {"nnsnnsnnsnnsnns", "eeweeweeweeweew", "ssnssnssnssnssn", "wwewwewwewwewwe",
            "nesenwnesenwnes", "nennennennennen", "nenwnwswsesenen"};
        for (int i = 0; i < ways.length; i++) {
            for (int start : new int[] {0, 14, 21, 35}) {
                String person = (start < 10 ? "0" : "") + start + "070s";
                goes("d" + ways[i], wide("d" + ways[i], person), start, 6, between(gone[i], 's'));
            }
        }
        CHECK.says("of each of both feet by itself the first, second, .., and round; of a dancer's, each third time");
        goes("one dancer's on both feet", wide("dn", "20000w"), 20, 6, "nnnnssnnnnssnnnnssnnnnssnnnnss");
    }

    private static void strangers() {
        CHECK.says("of a stranger's, turned to the right by one for each time that its WAY has gone round");
        String[] ways = {"n", "e", "s", "w", "ne", "nes", "nesw", "wwww"};
        String[] gone = {"neswneswneswnes", "eswneswneswnesw", "swneswneswneswn", "wneswneswneswne",
            "neesswwnneessww", "neseswswnwnenes", "nesweswnswnewne", "wwwwnnnneeeesss"};
        for (int i = 0; i < ways.length; i++) {
            for (int start : new int[] {0, 14, 21, 35}) {
                String person = (start < 10 ? "0" : "") + start + "070s";
                goes("t" + ways[i], wide("t" + ways[i], person), start, 6, between(gone[i], 's'));
            }
        }
        goes("one stranger's on both feet", wide("tn", "14000w"), 14, 6, "nneesswwnneesswwnneesswwnneess");
    }

    private static void ownWays() {
        CHECK.says("Else, or if there is no such last, it goes its OWN way.");
        for (char own : WAYS.toCharArray()) {
            DeadLasts x = wide("pn", "14005" + own);
            goes("own way " + own, x, 14, 6, "" + own + own + own + own + own + own + own + 'n' + own);
            CHECK.due("by no last", x.at(0, 0, 3), NONE);
            goes("in the rain, own way " + own, wide("pn", "14000" + own, 0, 2), 14, 6, "" + own + 'n' + own + 'n');
        }
    }

    private static void noSuchLast() {
        CHECK.says("or if there is no such last, it goes its OWN way");
        for (int many = 0; many <= 8; many++) {
            for (int last = 0; last < 8; last++) {
                DeadLasts x = wide(Check.times(many, "pe"), "14" + last + last + "0s");
                CHECK.due("last " + last + " of " + many, x.at(0, 0, 0), last < many ? 15 : 20);
                CHECK.due("last " + last + " of " + many + " went", x.at(1, 0, 3), last < many ? last : NONE);
            }
        }
    }

    private static void edges() {
        CHECK.says("Into a wall, beyond the edge, it stays where it is.");
        for (int width = 1; width <= 6; width++) {
            for (int rows = 1; rows <= 6; rows++) {
                String town = Check.times(rows, ".".repeat(width));
                for (int cell = 0; cell < width * rows; cell++) {
                    for (char way : WAYS.toCharArray()) {
                        String person = "" + cell / 10 + cell % 10 + "000" + way;
                        goes(width + " by " + rows, Check.made(town, "", person), cell, width, "" + way);
                    }
                }
            }
        }
        DeadLasts x = Check.made("..;..", "pe", "01000w");
        CHECK.due("it goes by the last all the same", x.at(0, 0, 3), 0);
        CHECK.due("it walks on", x.at(29, 0, 1), 0);
    }

    private static void walls() {
        CHECK.says("Into a wall, beyond the edge, it stays where it is.");
        for (char way : WAYS.toCharArray()) {
            DeadLasts x = Check.made(".#.;#.#;.#.", "p" + way, "04000" + way);
            CHECK.due("walls, " + way, x.at(0, 0, 0), 4);
            CHECK.due("it still walks, " + way, x.at(29, 0, 1), 0);
            CHECK.due("and wears the last, " + way, x.worn(0), 30);
            DeadLasts y = Check.made(Check.times(3, "..."), "p" + way, "04000" + way);
            CHECK.due("no walls, " + way, y.at(0, 0, 0), 4 + new int[] {-3, 1, 3, -1}[WAYS.indexOf(way)]);
        }
    }

    private static void comingAndDrowning() {
        CHECK.says("On the church it has COME, on the river it is DROWNED; it WALKS no more.");
        for (int state = 1; state <= 2; state++) {
            DeadLasts x = Check.made(".." + (state == 1 ? "c" : "r") + ".", "pe", "00000e;02000e");
            for (int step = 0; step < 30; step++) {
                CHECK.due("cell behind " + step, x.at(step, 0, 0), step == 0 ? 1 : 2);
                CHECK.due("what it is behind " + step, x.at(step, 0, 1), step == 0 ? 0 : state);
                CHECK.due("by which last in " + step, x.at(step, 0, 3), step <= 1 ? 0 : NONE);
            }
            CHECK.due("the STEP", x.ends(0, state - 1), 1);
            CHECK.due("not the other one", x.ends(0, 2 - state), NONE);
            CHECK.due("the last is worn twice", x.worn(0), 2);
        }
    }

    private static void byWhichLast() {
        CHECK.says("by which last it went in that STEP (NONE: its OWN way, or it did not go)");
        DeadLasts x = Check.made("....c", "pe;pe", "00010e;00771e;04000e;05000e", 1);
        int[] went = {0, NONE, 0, 1, NONE};
        for (int step = 0; step < went.length; step++) {
            CHECK.due("the left, rain, the left, the right, it has come: " + step, x.at(step, 0, 3), went[step]);
            CHECK.due("no such last: " + step, x.at(step, 1, 3), NONE);
            CHECK.due("it had come ahead of STEP 0: " + step, x.at(step, 2, 3), NONE);
            CHECK.due("it is LOST: " + step, x.at(step, 3, 3), NONE);
        }
    }

    private static void aheadOfStepZero() {
        CHECK.says("So it is, too, ahead of STEP 0, if its CELL is such a one");
        DeadLasts x = Check.made(".cr", "pw", "01000w;02000w;00000w");
        for (int step = 0; step < 30; step++) {
            for (int p = 0; p < 2; p++) {
                CHECK.due("cell of " + p, x.at(step, p, 0), p + 1);
                CHECK.due("what it is, of " + p, x.at(step, p, 1), p + 1);
                CHECK.due("weight of " + p, x.at(step, p, 2), 0);
                CHECK.due("by no last, of " + p, x.at(step, p, 3), NONE);
            }
        }
        CHECK.due("worn by the third alone", x.worn(0), 30);
        CHECK.says("the STEP in which it COMES, is DROWNED (NONE: never, or ahead of STEP 0)");
        for (int p = 0; p < 3; p++) {
            CHECK.due("COMES, of " + p, x.ends(p, 0), NONE);
            CHECK.due("DROWNED, of " + p, x.ends(p, 1), NONE);
        }
        DeadLasts y = Check.made("c.r", "pw;pe", "01000n;01110n");
        CHECK.due("COMES in STEP 0", y.ends(0, 0), 0);
        CHECK.due("DROWNED in STEP 0", y.ends(1, 1), 0);
    }

    private static void lost() {
        CHECK.says("on a wall, or no CELL, it is LOST from the beginning");
        for (int cells = 1; cells <= 6; cells++) {
            DeadLasts x = Check.made(".".repeat(cells), "pn", "0" + (cells - 1) + "000n;0" + cells + "000n");
            CHECK.due("on the last CELL of " + cells, x.at(0, 0, 1), 0);
            CHECK.due("on the last CELL of " + cells + ": cell", x.at(0, 0, 0), cells - 1);
            CHECK.due("one beyond of " + cells, x.at(0, 1, 1), 3);
        }
        DeadLasts y = wide("pn", "35000n;36000n;39000n;00000n");
        int[] states = {0, 3, 3, 0};
        for (int p = 0; p < 4; p++) {
            CHECK.due("of 36: what " + p + " is", y.at(29, p, 1), states[p]);
        }
        DeadLasts z = Check.made("#.", "pe", "00000e;01000w");
        CHECK.says("the CELL (NONE: LOST); what it is: 0 it WALKS, 1 it has COME, 2 DROWNED, 3 LOST");
        for (int step = 0; step < 30; step++) {
            CHECK.due("cell", z.at(step, 0, 0), NONE);
            CHECK.due("what it is", z.at(step, 0, 1), 3);
            CHECK.due("weight", z.at(step, 0, 2), 0);
            CHECK.due("by no last", z.at(step, 0, 3), NONE);
            CHECK.due("the other one walks", z.at(step, 1, 1), 0);
        }
        CHECK.due("it never comes", z.ends(0, 0), NONE);
        CHECK.due("it is never drowned", z.ends(0, 1), NONE);
        CHECK.due("nobody comes", z.who(0), 0);
        CHECK.due("nobody is drowned", z.who(1), 0);
    }

    private static void theLastStep() {
        CHECK.says("the STEP in which it COMES, is DROWNED (NONE: never, or ahead of STEP 0)");
        for (int what = 0; what < 2; what++) {
            String town = "....." + "cr".charAt(what);
            for (int rain = 21; rain <= 25; rain++) {
                DeadLasts x = Check.made(town, "pe", SLOW, rain);
                int step = rain + 6;
                CHECK.due("rain in " + rain + ": ends", x.ends(0, what), step <= 29 ? step : NONE);
                CHECK.due("rain in " + rain + ": behind 28", x.at(28, 0, 1), step <= 28 ? what + 1 : 0);
                CHECK.due("rain in " + rain + ": behind 29", x.at(29, 0, 1), step <= 29 ? what + 1 : 0);
                CHECK.says("COME, DROWNED behind STEP 29, as bits.");
                CHECK.due("rain in " + rain + ": who", x.who(what), step <= 29 ? 1 : 0);
                CHECK.says("the STEP in which it COMES, is DROWNED (NONE: never, or ahead of STEP 0)");
            }
        }
    }

    private static void toldNumbers() {
        CHECK.says("The CELL (what = 0; NONE), what it is (1), its WEIGHT (2), by which last it went (3; NONE). BAD.");
        for (int many = 1; many <= 8; many++) {
            DeadLasts x = Check.made("..", "pe", Check.times(many, "00000n"));
            CHECK.range("at(step, ..)", step -> x.at(step, 0, 0), 0, 29);
            CHECK.range("at(.., person, ..)", person -> x.at(0, person, 0), 0, many - 1);
            CHECK.range("at(.., what)", what -> x.at(0, 0, what), 0, 3);
            CHECK.says("In which STEP it COMES (what = 0), is DROWNED (1); NONE. BAD.");
            CHECK.range("ends(person, 0)", person -> x.ends(person, 0), 0, many - 1);
            CHECK.range("ends(person, 1)", person -> x.ends(person, 1), 0, many - 1);
            CHECK.range("ends(0, what)", what -> x.ends(0, what), 0, 1);
        }
        DeadLasts none = new DeadLasts();
        CHECK.due("at(0, 0, 0) of nobody", none.at(0, 0, 0), DeadLasts.BAD);
        CHECK.due("ends(0, 0) of nobody", none.ends(0, 0), DeadLasts.BAD);
        CHECK.says("COME (what = 0), DROWNED (1), as bits. BAD.");
        CHECK.range("who", none::who, 0, 1);
        CHECK.says("MEETS: the STEP (what = 0), the least PERSON (1), the other one (2); NONE. BAD.");
        CHECK.range("met", none::met, 0, 2);
        CHECK.says("WORN. BAD.");
        CHECK.due("worn(0) of none", none.worn(0), DeadLasts.BAD);
        for (int many = 1; many <= 8; many++) {
            CHECK.range("worn", Check.made("..", Check.times(many, "pe"), "00770n")::worn, 0, many - 1);
        }
    }

    private static void bits() {
        CHECK.says("COME, DROWNED behind STEP 29, as bits.");
        DeadLasts x = Check.made("c.r", "pw;pe", Check.times(8, "01000n"));
        CHECK.due("all come", x.who(0), 255);
        CHECK.due("none is drowned", x.who(1), 0);
        DeadLasts y = Check.made("c.r", "pw;pe", "01110n;" + Check.times(6, "01220n") + ";01000n");
        CHECK.due("the last comes", y.who(0), 128);
        CHECK.due("the first is drowned", y.who(1), 1);
        DeadLasts z = Check.made("c.r", "", "00000n;02000n;01000n;09000n");
        CHECK.due("come ahead of STEP 0", z.who(0), 1);
        CHECK.due("drowned ahead of STEP 0", z.who(1), 2);
        CHECK.due("nobody", new DeadLasts().who(0), 0);
    }

    private static void met(String name, DeadLasts x, int step, int person, int other) {
        CHECK.due(name + ": met(0)", x.met(0), step);
        CHECK.due(name + ": met(1)", x.met(1), person);
        CHECK.due(name + ": met(2)", x.met(2), other);
    }

    private static void meetings() {
        CHECK.says("MEETS: the first STEP behind which two that still WALK are on one CELL");
        met("ahead of STEP 0 alone", Check.made("...", "pw;pe", "01000n;01110n"), NONE, NONE, NONE);
        met("behind STEP 0", Check.made("...", "pw;pe", "02000n;00110n"), 0, 0, 1);
        met("passing one another", Check.made("..", "pw;pe", "01000n;00110n"), NONE, NONE, NONE);
        for (int rain = 22; rain <= 24; rain++) {
            int step = rain + 6;
            boolean meets = step <= 29;
            met("rain in " + rain, Check.made("......", "pe", SLOW + ";05770n", rain), meets ? step : NONE,
                    meets ? 0 : NONE, meets ? 1 : NONE);
        }
        CHECK.says("the least such PERSON; the least one with it; NONE");
        met("two pairs at once", Check.made("..", "pn", "01000n;00000n;00000n;01000n"), 0, 0, 3);
        met("three on one CELL", Check.made("..", "pn", "01000n;00000n;00000n;00000n"), 0, 1, 2);
        met("the last two", Check.made("...;...", "pn",
                "00000n;01000n;02000n;09000n;09000n;09000n;05000s;05000s"), 0, 2, 6);
        met("seven and eight", Check.made("...;...", "", "00000n;01000n;09000n;09000n;09000n;09000n;05000s;05000s"),
                0, 6, 7);
        met("sooner goes ahead of less", Check.made("......", "pe", "00000n;03770n;05770n;05770n"), 0, 2, 3);
        met("one alone", Check.made(".", "pn", "00000n"), NONE, NONE, NONE);
        met("nobody", new DeadLasts(), NONE, NONE, NONE);
    }

    private static void meetingOnlyThoseWhoWalk() {
        CHECK.says("two that still WALK are on one CELL");
        met("two come at once", Check.made("c.", "pw", "01000n;01000n"), NONE, NONE, NONE);
        met("two are drowned at once", Check.made("r.", "pw", "01000n;01000n"), NONE, NONE, NONE);
        met("two have come", Check.made("c", "pw", "00000n;00000n"), NONE, NONE, NONE);
        met("two are lost", Check.made("#", "pw", "00000n;00000n"), NONE, NONE, NONE);
        met("two without a town", Check.made("", "pw", "00000n;00000n"), NONE, NONE, NONE);
        met("one comes to one who has come", Check.made("c.", "pw", "00000n;01000n"), NONE, NONE, NONE);
        met("they walk ahead of it", Check.made("c..", "pw", "02000n;02000n"), 0, 0, 1);
    }

    private static void wearing() {
        CHECK.says("WORN of a last: how many times in all STEPS anybody goes by it.");
        CHECK.due("eight people in all STEPS", Check.made(".", "pn", Check.times(8, "00000n")).worn(0), 240);
        CHECK.due("on the left alone", Check.made(".", "pn;pe", "00010n").worn(0), 15);
        CHECK.due("on the right alone", Check.made(".", "pn;pe", "00010n").worn(1), 15);
        CHECK.due("in STEP 0 alone", Check.made(".c", "pe;pn", "00010n").worn(0), 1);
        CHECK.due("not in STEP 1 then", Check.made(".c", "pe;pn", "00010n").worn(1), 0);
        CHECK.due("five times soled", Check.made(".", "pn", "00005n").worn(0), 3);
        CHECK.due("in the rain of STEP 29", Check.made(".", "pn", "00000n", 29).worn(0), 29);
        CHECK.due("nobody", Check.made(".", "pn", "").worn(0), 0);
        CHECK.due("no town", Check.made("", "pn", "00000n").worn(0), 0);
        CHECK.due("the eighth", Check.made(".", Check.times(8, "pn"), "00770n").worn(7), 30);
    }

    private static void rifest() {
        CHECK.says("RIFEST: the last that is WORN most, of like ones the least; NONE: there are none.");
        CHECK.due("no lasts", Check.made(".", "", "00000n").rifest(), NONE);
        CHECK.due("lasts with a fault", Check.made(".", "pn;", "00000n").rifest(), NONE);
        CHECK.due("all of them not at all", Check.made("", "pn;pn", "00000n").rifest(), 0);
        CHECK.due("both alike", Check.made(".", "pn;pn;pn", "00210n").rifest(), 1);
        CHECK.due("the left one once more", Check.made(".", "pn;pn;pn", "00210n", 1).rifest(), 2);
        CHECK.due("the right one once more", Check.made(".", "pn;pn;pn", "00210n", 2).rifest(), 1);
        CHECK.due("the eighth", Check.made(".", Check.times(8, "pn"), "00770n").rifest(), 7);
    }
}
