/** Promises 12 to 17: at, ends, who, met, worn, rifest. */
public final class StepsTest {
    private static final Check CHECK = new Check();

    public static void main(String[] args) {
        plainLasts();
        soled();
        rainTakesTheWeight();
        dancers();
        strangers();
        feetByThemselves();
        wallsAndEdges();
        noSuchLast();
        aheadOfStepZero();
        behindTheEnd();
        meeting();
        wearing();
        wrongNumbers();
        changesAreFollowed();
        CHECK.finish();
    }

    private static void cells(String name, DeadLasts x, int person, int... want) {
        for (int step = 0; step < want.length; step++) {
            CHECK.due(name + ": at(" + step + ", " + person + ", 0)", x.at(step, person, 0), want[step]);
        }
    }

    private static void told(String name, DeadLasts x, int what, int... want) {
        for (int step = 0; step < want.length; step++) {
            CHECK.due(name + ": at(" + step + ", 0, " + what + ")", x.at(step, 0, what), want[step]);
        }
    }

    private static void plainLasts() {
        DeadLasts x = Check.made("....c", "pe", "00000w");
        cells("plain", x, 0, 1, 2, 3, 4, 4);
        told("plain", x, 1, 0, 0, 0, 1, 1);
        told("plain", x, 3, 0, 0, 0, 0, -1);
        CHECK.due("ends(0, 0)", x.ends(0, 0), 3);
        CHECK.due("ends(0, 1)", x.ends(0, 1), -1);
        CHECK.due("who(0)", x.who(0), 1);
        CHECK.due("who(1)", x.who(1), 0);
        // left south then east, right north then west: each foot has its own place in its way
        DeadLasts y = Check.made("...;...;...", "pse;pnw", "04010n");
        cells("both feet", y, 0, 7, 4, 5, 4, 7, 4, 5, 4);
        told("both feet", y, 3, 0, 1, 0, 1, 0, 1, 0, 1);
        CHECK.due("never: ends(0, 0)", y.ends(0, 0), -1);
        CHECK.due("never: ends(0, 1)", y.ends(0, 1), -1);
    }

    private static void soled() {
        DeadLasts x = Check.made("......", "pe", "00001w");
        told("once soled", x, 2, 2, 1, 0, 2, 1, 0, 2);
        told("once soled", x, 3, -1, 0, 0, -1, 0, 0, -1);
        cells("once soled", x, 0, 0, 1, 2, 1, 2, 3, 2, 3, 4, 3);
        DeadLasts y = Check.made("......", "pe", "00005w");
        told("five times soled", y, 2, 32, 64, 96, 128, 160, 192, 224, 13, 45);
        told("five times soled", y, 3, -1, -1, -1, -1, -1, -1, -1, 0, -1);
        CHECK.due("weight behind STEP 29", y.at(29, 0, 2), 960 - 3 * 243);
    }

    private static void rainTakesTheWeight() {
        DeadLasts x = Check.made("......", "pe", "00002w", 1);
        told("rain in STEP 1", x, 2, 4, 0, 4, 8, 3, 7, 2);
        told("rain in STEP 1", x, 3, -1, -1, -1, -1, 0, -1, 0);
        DeadLasts y = Check.made("....", "pe", "01000w", 0, 2);
        cells("rain in STEPS 0 and 2", y, 0, 0, 1, 0, 1, 2, 3, 3);
        told("rain in STEPS 0 and 2", y, 3, -1, 0, -1, 0, 0);
        told("rain in STEPS 0 and 2", y, 2, 0, 0, 0, 0, 0);
        // a step that was not gone by the last does not use up a letter of its way
        DeadLasts z = Check.made("...;...;...", "pes", "03000n", 2);
        cells("letters wait", z, 0, 4, 5, 2, 5, 8, 8, 8, 8);
    }

    private static void dancers() {
        DeadLasts x = Check.made("......", "de", "00000n");
        cells("a dancer's, both feet", x, 0, 1, 2, 3, 4, 3, 2, 3, 4, 5, 5, 4, 3);
        // the way opposite to the letter that is next, not a letter of its own
        DeadLasts y = Check.made("...;...;...", "dnes;pn", "07010n", 1, 3, 5, 7, 9, 11);
        cells("a dancer's letters", y, 0, 4, 1, 2, 2, 2, 2, 2, 2, 2, 2, 2, 2);
        DeadLasts z = Check.made("......", "dew", "02000n");
        cells("a dancer's with two letters", z, 0, 3, 4, 3, 2, 1, 0, 0, 0, 1, 2, 3, 4);
    }

    private static void strangers() {
        DeadLasts x = Check.made("...;...;...", "te", "03070n");
        cells("a stranger's on the left", x, 0, 4, 1, 4, 1, 0, 0, 0, 0, 1, 1, 4);
        told("a stranger's on the left", x, 3, 0, -1, 0, -1, 0, -1, 0, -1, 0);
        // north, east; then turned: east, south; then south, west
        DeadLasts y = Check.made("....;....;....;....", "tne;pw", "08010n", 1, 3, 5, 7, 9, 11, 13);
        // own way n in the wet odd steps
        cells("a stranger's with two letters", y, 0, 4, 0, 1, 1, 2, 2, 6, 2, 6, 2, 1, 1);
    }

    private static void feetByThemselves() {
        // the same last on both feet: each foot begins at its first letter
        DeadLasts x = Check.made("......", "pew", "02000n");
        cells("one last, two feet", x, 0, 3, 4, 3, 2, 3, 4, 3, 2);
    }

    private static void wallsAndEdges() {
        DeadLasts x = Check.made(".#;..", "pe", "00000w");
        cells("a wall", x, 0, 0, 0, 0);
        CHECK.due("it went by the last all the same", x.at(0, 0, 3), 0);
        CHECK.due("and wore it", x.worn(0), 30);
        cells("the north edge", Check.made("..;..", "pn", "01000w"), 0, 1, 1);
        cells("the east edge", Check.made("..;..", "pe", "01000w"), 0, 1, 1);
        cells("the south edge", Check.made("..;..", "ps", "02000w"), 0, 2, 2);
        cells("the west edge", Check.made("..;..", "pw", "02000w"), 0, 2, 2);
        cells("north", Check.made("..;..", "pn", "03000w"), 0, 1);
        cells("south", Check.made("..;..", "ps", "01000w"), 0, 3);
    }

    private static void noSuchLast() {
        DeadLasts x = Check.made("......", "", "00001e");
        cells("no lasts", x, 0, 1, 2, 3, 4, 5, 5);
        told("no lasts", x, 3, -1, -1, -1, -1);
        told("the weight goes off all the same", x, 2, 2, 1, 0, 2, 1, 0);
        DeadLasts y = Check.made("......", "pe", "00010w");
        cells("the right one is not there", y, 0, 1, 0, 1, 0);
    }

    private static void aheadOfStepZero() {
        DeadLasts x = Check.made("c.r#", "pe", "00000e;02000e;03000e;04000e;39000e");
        int[] cell = {0, 2, -1, -1, -1};
        int[] state = {1, 2, 3, 3, 3};
        for (int p = 0; p < 5; p++) {
            for (int step = 0; step < 30; step += 29) {
                CHECK.due("ahead: cell of " + p, x.at(step, p, 0), cell[p]);
                CHECK.due("ahead: state of " + p, x.at(step, p, 1), state[p]);
                CHECK.due("ahead: weight of " + p, x.at(step, p, 2), 0);
                CHECK.due("ahead: last of " + p, x.at(step, p, 3), -1);
            }
            CHECK.due("ahead: ends 0", x.ends(p, 0), -1);
            CHECK.due("ahead: ends 1", x.ends(p, 1), -1);
        }
        CHECK.due("ahead: who(0)", x.who(0), 1);
        CHECK.due("ahead: who(1)", x.who(1), 2);
        CHECK.due("ahead: worn(0)", x.worn(0), 0);
    }

    private static void behindTheEnd() {
        DeadLasts x = Check.made("..r", "pe;pe", "00012e");
        // weights 4, 8, 12 - 9: it goes its own way east in STEPS 0 and 1 and is drowned in STEP 1
        CHECK.due("drowned in", x.ends(0, 1), 1);
        CHECK.due("comes in", x.ends(0, 0), -1);
        CHECK.due("who(1)", x.who(1), 1);
        CHECK.due("the river's cell is kept", x.at(29, 0, 0), 2);
        CHECK.due("the state is kept", x.at(29, 0, 1), 2);
        CHECK.due("the weight is kept", x.at(29, 0, 2), 8);
        CHECK.due("it goes by none", x.at(2, 0, 3), -1);
    }

    private static void meeting() {
        DeadLasts x = Check.made("......", "pe;pw;pn", "05110n;00000n;03220n;02220n");
        // 0 goes west from 5, 1 east from 0, 2 and 3 stay on 3 and 2
        CHECK.due("met(0)", x.met(0), 1);
        CHECK.due("met(1)", x.met(1), 0);
        CHECK.due("met(2)", x.met(2), 2);
        DeadLasts y = Check.made("..", "pn", "01000n;00000n;01000n;00000n");
        CHECK.due("the least person", y.met(1), 0);
        CHECK.due("the least one with it", y.met(2), 2);
        CHECK.due("at once is behind STEP 0", y.met(0), 0);
        DeadLasts z = Check.made("..c", "pe", "00000n;00000n");
        z.wipe(2);
        Check.typed(z, 2, "01000n;02000n;02000n");
        for (int what = 0; what < 3; what++) {
            CHECK.due("those who have come do not meet", z.met(what), -1);
        }
        DeadLasts l = Check.made("..", "pe", "09000n;09000n");
        CHECK.due("the lost do not meet", l.met(0), -1);
    }

    private static void wearing() {
        DeadLasts x = Check.made("......", "pw;pe;pe", "00120n;00120n");
        CHECK.due("worn(0)", x.worn(0), 0);
        CHECK.due("worn(1)", x.worn(1), 30);
        CHECK.due("worn(2)", x.worn(2), 30);
        CHECK.due("rifest: of like ones the least", x.rifest(), 1);
        x.rain(0);
        CHECK.due("rifest in the rain", x.rifest(), 2);
        CHECK.due("worn(1) in the rain", x.worn(1), 28);
        x.wipe(2);
        CHECK.due("rifest with nobody", x.rifest(), 0);
        x.wipe(1);
        CHECK.due("rifest of none", x.rifest(), -1);
        CHECK.due("worn of none", x.worn(0), DeadLasts.BAD);
    }

    private static void wrongNumbers() {
        DeadLasts x = Check.made("..", "pe", "00000n");
        CHECK.due("at(-1, 0, 0)", x.at(-1, 0, 0), DeadLasts.BAD);
        CHECK.due("at(30, 0, 0)", x.at(30, 0, 0), DeadLasts.BAD);
        CHECK.due("at(0, -1, 0)", x.at(0, -1, 0), DeadLasts.BAD);
        CHECK.due("at(0, 1, 0)", x.at(0, 1, 0), DeadLasts.BAD);
        CHECK.due("at(0, 0, -1)", x.at(0, 0, -1), DeadLasts.BAD);
        CHECK.due("at(0, 0, 4)", x.at(0, 0, 4), DeadLasts.BAD);
        CHECK.due("ends(1, 0)", x.ends(1, 0), DeadLasts.BAD);
        CHECK.due("ends(-1, 0)", x.ends(-1, 0), DeadLasts.BAD);
        CHECK.due("ends(0, 2)", x.ends(0, 2), DeadLasts.BAD);
        CHECK.due("ends(0, -1)", x.ends(0, -1), DeadLasts.BAD);
        CHECK.due("who(2)", x.who(2), DeadLasts.BAD);
        CHECK.due("who(-1)", x.who(-1), DeadLasts.BAD);
        CHECK.due("met(3)", x.met(3), DeadLasts.BAD);
        CHECK.due("met(-1)", x.met(-1), DeadLasts.BAD);
        CHECK.due("worn(1)", x.worn(1), DeadLasts.BAD);
        CHECK.due("worn(-1)", x.worn(-1), DeadLasts.BAD);
    }

    private static void changesAreFollowed() {
        DeadLasts x = Check.made("...", "pe", "00000w");
        CHECK.due("as typed", x.at(1, 0, 0), 2);
        x.rain(1);
        CHECK.due("rain", x.at(1, 0, 0), 0);
        x.back();
        CHECK.due("back", x.at(1, 0, 0), 2);
        x.undo(1);
        CHECK.due("a last with a fault is none", x.at(1, 0, 0), 0);
        x.type(1, 'e');
        CHECK.due("mended", x.at(1, 0, 0), 2);
        x.type(0, 'x');
        CHECK.due("a town with a fault is none", x.at(1, 0, 1), 3);
        x.undo(0);
        x.undo(0);
        CHECK.due("a smaller town", x.at(1, 0, 0), 1);
        x.type(2, ';');
        CHECK.due("people with a fault are none", x.at(1, 0, 0), DeadLasts.BAD);
    }
}
