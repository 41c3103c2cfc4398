/** Promises 1 to 8: a new object, type, wipe, undo, fault, cell, last, person. */
public final class TextsTest {
    private static final Check CHECK = new Check();

    public static void main(String[] args) {
        aNewObject();
        typing();
        wipingAndUndoing();
        townFaults();
        lastsFaults();
        peopleFaults();
        cells();
        lasts();
        people();
        CHECK.finish();
    }

    private static void aNewObject() {
        DeadLasts x = new DeadLasts();
        for (int what = 0; what <= 8; what++) {
            CHECK.due("new: count(" + what + ")", x.count(what), 0);
        }
        for (int s = 0; s < 4; s++) {
            CHECK.due("new: lose(" + s + ")", x.lose(s), -11);
        }
        for (int text = 0; text < 3; text++) {
            CHECK.due("new: fault(" + text + ")", x.fault(text), DeadLasts.NONE);
        }
        for (int cell = 0; cell < 36; cell++) {
            CHECK.due("new: cell(" + cell + ")", x.cell(cell), DeadLasts.NONE);
        }
    }

    private static void typing() {
        int[] most = {41, 47, 55};
        for (int text = 0; text < 3; text++) {
            DeadLasts x = new DeadLasts();
            for (int i = 1; i <= most[text]; i++) {
                CHECK.due("type(" + text + ", ..)", x.type(text, i % 2 == 0 ? 0 : 255), i);
            }
            CHECK.due("type beyond the end of " + text, x.type(text, 46), DeadLasts.FULL);
            CHECK.due("BAD goes ahead of FULL", x.type(text, 256), DeadLasts.BAD);
            CHECK.due("bytes of " + text, x.count(3 + text), most[text]);
        }
        DeadLasts x = new DeadLasts();
        CHECK.due("type(-1, 0)", x.type(-1, 0), DeadLasts.BAD);
        CHECK.due("type(3, 0)", x.type(3, 0), DeadLasts.BAD);
        CHECK.due("type(0, -1)", x.type(0, -1), DeadLasts.BAD);
        CHECK.due("type(0, 256)", x.type(0, 256), DeadLasts.BAD);
        CHECK.due("nothing was typed", x.count(3), 0);
    }

    private static void wipingAndUndoing() {
        DeadLasts x = Check.made("..;..", "pn", "00000n");
        CHECK.due("wipe(-1)", x.wipe(-1), DeadLasts.BAD);
        CHECK.due("wipe(3)", x.wipe(3), DeadLasts.BAD);
        CHECK.due("undo(-1)", x.undo(-1), DeadLasts.BAD);
        CHECK.due("undo(3)", x.undo(3), DeadLasts.BAD);
        CHECK.due("wipe(0)", x.wipe(0), 5);
        CHECK.due("wipe(0) again", x.wipe(0), 0);
        CHECK.due("undo(0) of none", x.undo(0), DeadLasts.NOT);
        CHECK.due("no cells", x.count(0), 0);
        CHECK.due("undo(1)", x.undo(1), 1);
        CHECK.due("a last without a way is none", x.count(1), 0);
        CHECK.due("undo(1) again", x.undo(1), 0);
        CHECK.due("undo(1) of none", x.undo(1), DeadLasts.NOT);
        CHECK.due("the people still stand", x.count(2), 1);
        CHECK.due("wipe(2)", x.wipe(2), 6);
        CHECK.due("wiped: count(2)", x.count(2), 0);
    }

    private static void fault(int text, String signs, int want) {
        DeadLasts x = new DeadLasts();
        Check.typed(x, text, signs);
        CHECK.due("fault(" + text + ") of " + signs, x.fault(text), want);
        if (want != DeadLasts.NONE) {
            CHECK.due("as if empty: " + signs, x.count(text), 0);
            CHECK.due("its bytes are kept: " + signs, x.count(3 + text), signs.length());
        }
    }

    private static void townFaults() {
        fault(0, "", -1);
        fault(0, ".#cr", -1);
        fault(0, "......;......;......;......;......;......", -1);
        fault(0, ".......", 6);
        fault(0, "......x", 6);
        fault(0, ";", 0);
        fault(0, ".;", 2);
        fault(0, ".;;", 2);
        fault(0, "..;.", 4);
        fault(0, "..;.;", 4);
        fault(0, "..;...", 5);
        fault(0, "..;..x", 5);
        fault(0, "..;x", 3);
        fault(0, "..x", 2);
        fault(0, ".C", 1);
        fault(0, "..;..\0", 5);
        fault(0, ".;.;.;.;.;.", -1);
        fault(0, ".;.;.;.;.;.;", 12);
        fault(0, ".;.;.;.;.;.;.", 12);
        fault(0, ".;.;.;.;.;.;;", 12);
        CHECK.due("fault(-1)", new DeadLasts().fault(-1), DeadLasts.BAD);
        CHECK.due("fault(3)", new DeadLasts().fault(3), DeadLasts.BAD);
    }

    private static void lastsFaults() {
        fault(1, "", -1);
        fault(1, "pn", -1);
        fault(1, "pnesw;dnesw;tnesw;pnesw;dnesw;tnesw;pnesw;dnesw", -1);
        fault(1, "n", 0);
        fault(1, "p", 1);
        fault(1, "p;", 1);
        fault(1, "pp", 1);
        fault(1, "pn;", 3);
        fault(1, "pn;;", 3);
        fault(1, "pneswn", 5);
        fault(1, "pnesw;", 6);
        fault(1, "pnx", 2);
        fault(1, "pn;d", 4);
        fault(1, "pn;dw;t;", 7);
        fault(1, "pn;pn;pn;pn;pn;pn;pn;pn", -1);
        fault(1, "pn;pn;pn;pn;pn;pn;pn;pn;", 24);
        fault(1, "pn;pn;pn;pn;pn;pn;pn;pn;p", 24);
        fault(1, "pn;pn;pn;pn;pn;pn;pn;pn;pn", 24);
    }

    private static void peopleFaults() {
        fault(2, "", -1);
        fault(2, "00000n", -1);
        fault(2, "39775w", -1);
        fault(2, "4", 0);
        fault(2, "3", 1);
        fault(2, "3a", 1);
        fault(2, "3;", 1);
        fault(2, "398", 2);
        fault(2, "3978", 3);
        fault(2, "39776", 4);
        fault(2, "39775", 5);
        fault(2, "39775p", 5);
        fault(2, "39775ww", 6);
        fault(2, "39775w;", 7);
        fault(2, "39775w;;", 7);
        fault(2, "39775w;0", 8);
        fault(2, "/", 0);
        fault(2, "0:", 1);
        fault(2, "00000n;00000n;00000n;00000n;00000n;00000n;00000n;00000n", -1);
        fault(2, "00000n;00000n;00000n;00000n;00000n;00000n;00000n;00000", 54);
    }

    private static void cells() {
        DeadLasts x = Check.made(".#;cr", "", "");
        for (int cell = 0; cell < 4; cell++) {
            CHECK.due("cell(" + cell + ")", x.cell(cell), cell);
        }
        CHECK.due("cell(4)", x.cell(4), DeadLasts.NONE);
        CHECK.due("cell(35)", x.cell(35), DeadLasts.NONE);
        CHECK.due("cell(36)", x.cell(36), DeadLasts.BAD);
        CHECK.due("cell(-1)", x.cell(-1), DeadLasts.BAD);
        CHECK.due("count(0)", x.count(0), 4);
        DeadLasts y = Check.made("......;......;......;......;......;.....r", "", "");
        CHECK.due("the 36th cell", y.cell(35), 3);
        CHECK.due("count(0) of the widest", y.count(0), 36);
    }

    private static void lasts() {
        DeadLasts x = Check.made("", "pn;desw;tnesw", "");
        int[][] want = {{0, 1, 0, -1, -1, -1}, {1, 3, 1, 2, 3, -1}, {2, 4, 0, 1, 2, 3}};
        for (int last = 0; last < 3; last++) {
            for (int what = 0; what < 6; what++) {
                CHECK.due("last(" + last + ", " + what + ")", x.last(last, what), want[last][what]);
            }
        }
        CHECK.due("last(3, 0)", x.last(3, 0), DeadLasts.BAD);
        CHECK.due("last(-1, 0)", x.last(-1, 0), DeadLasts.BAD);
        CHECK.due("last(0, 6)", x.last(0, 6), DeadLasts.BAD);
        CHECK.due("last(0, -1)", x.last(0, -1), DeadLasts.BAD);
        CHECK.due("count(1)", x.count(1), 3);
        x.wipe(1);
        Check.typed(x, 1, "dw");
        CHECK.due("a shorter one behind a wipe", x.last(0, 3), DeadLasts.NONE);
        CHECK.due("its kind", x.last(0, 0), 1);
    }

    private static void people() {
        DeadLasts x = Check.made("", "", "39755w;00120n;17364e");
        int[][] want = {{39, 7, 5, 5, 3}, {0, 1, 2, 0, 0}, {17, 3, 6, 4, 1}};
        for (int person = 0; person < 3; person++) {
            for (int what = 0; what < 5; what++) {
                CHECK.due("person(" + person + ", " + what + ")", x.person(person, what), want[person][what]);
            }
        }
        CHECK.due("person(3, 0)", x.person(3, 0), DeadLasts.BAD);
        CHECK.due("person(-1, 0)", x.person(-1, 0), DeadLasts.BAD);
        CHECK.due("person(0, 5)", x.person(0, 5), DeadLasts.BAD);
        CHECK.due("person(0, -1)", x.person(0, -1), DeadLasts.BAD);
        CHECK.due("count(2)", x.count(2), 3);
    }
}
