/** Promises 29 to 35: sheet, lose, lay, get, copy, write, count. */
public final class SheetsTest {
    private static final Check CHECK = new Check();
    private static final int LEAST = Integer.MIN_VALUE;

    public static void main(String[] args) {
        making();
        losing();
        laying();
        getting();
        copying();
        writing();
        counting();
        CHECK.finish();
    }

    private static void making() {
        DeadLasts x = new DeadLasts();
        CHECK.due("sheet(-1, 0, 1)", x.sheet(-1, 0, 1), DeadLasts.BAD);
        CHECK.due("sheet(4, 0, 1)", x.sheet(4, 0, 1), DeadLasts.BAD);
        CHECK.due("sheet(0, -1, 1)", x.sheet(0, -1, 1), DeadLasts.BAD);
        CHECK.due("sheet(0, 3, 1)", x.sheet(0, 3, 1), DeadLasts.BAD);
        CHECK.due("sheet(0, 0, 61)", x.sheet(0, 0, 61), DeadLasts.BAD);
        CHECK.due("BAD goes ahead of SIZE", x.sheet(4, 0, -1), DeadLasts.BAD);
        CHECK.due("no finding yet", x.count(8), 0);
        CHECK.due("sheet(0, 0, -1)", x.sheet(0, 0, -1), -15);
        CHECK.due("sheet of the least size", x.sheet(0, 0, LEAST), -15);
        CHECK.due("count(8)", x.count(8), 5);
        CHECK.due("still lost", x.lose(0), -11);
        CHECK.due("sheet(0, 0, 0)", x.sheet(0, 0, 0), 0);
        CHECK.due("sheet(3, 2, 60)", x.sheet(3, 2, 60), 60);
        CHECK.due("0 at first", x.get(3, 2, 59), 0);
        x.lay(3, 2, 59, 7);
        CHECK.due("a refused new row", x.sheet(3, 1, -5), -15);
        CHECK.due("leaves the old one", x.get(3, 2, 59), 7);
        CHECK.due("a new row", x.sheet(3, 2, 60), 60);
        CHECK.due("is 0 again", x.get(3, 2, 59), 0);
        x.sheet(3, 1, 2);
        CHECK.due("its form is new", x.get(3, 1, 1), 0);
        CHECK.due("its size is new", x.get(3, 1, 2), LEAST);
    }

    private static void losing() {
        DeadLasts x = new DeadLasts();
        CHECK.due("lose(-1)", x.lose(-1), DeadLasts.BAD);
        CHECK.due("lose(4)", x.lose(4), DeadLasts.BAD);
        CHECK.due("lose(0) of a lost one", x.lose(0), -11);
        CHECK.due("count(8)", x.count(8), 1);
        x.sheet(0, 1, 12);
        CHECK.due("lose(0)", x.lose(0), 12);
        CHECK.due("lose(0) again", x.lose(0), -11);
        x.sheet(1, 0, 0);
        CHECK.due("one without items", x.lose(1), 0);
    }

    private static void laying() {
        DeadLasts x = new DeadLasts();
        CHECK.due("lay(-1, ..)", x.lay(-1, 0, 0, 0), DeadLasts.BAD);
        CHECK.due("lay(4, ..)", x.lay(4, 0, 0, 0), DeadLasts.BAD);
        CHECK.due("lay of form -1", x.lay(0, -1, 0, 0), DeadLasts.BAD);
        CHECK.due("lay of form 3", x.lay(0, 3, 0, 0), DeadLasts.BAD);
        CHECK.due("lay on a lost one", x.lay(0, 0, 99, 0), -11);
        x.sheet(0, 0, 3);
        CHECK.due("CAST goes ahead of INDEX", x.lay(0, 1, 3, 0), -13);
        CHECK.due("count(8)", x.count(8), 3);
        CHECK.due("INDEX", x.lay(0, 0, 3, 0), -12);
        CHECK.due("INDEX below 0", x.lay(0, 0, -1, 0), -12);
        CHECK.due("count(8) then", x.count(8), 2);
        int[] values = {0, 127, 128, 255, 256, -1, -129, 32767, 32768, 65535, 65536, -32769, LEAST, Integer.MAX_VALUE};
        for (int form = 0; form < 3; form++) {
            x.sheet(form, form, 1);
            for (int v : values) {
                CHECK.due("lay " + v, x.lay(form, form, 0, v), 1);
                int want = form == 0 ? (byte) v : form == 1 ? (short) v : v;
                CHECK.due("get " + v + " of form " + form, x.get(form, form, 0), want);
            }
        }
    }

    private static void getting() {
        DeadLasts x = new DeadLasts();
        x.sheet(0, 1, 4);
        CHECK.due("get(-1, ..)", x.get(-1, 0, 0), LEAST);
        CHECK.due("get(4, ..)", x.get(4, 0, 0), LEAST);
        CHECK.due("get of form -1", x.get(0, -1, 0), LEAST);
        CHECK.due("get of form 3", x.get(0, 3, 0), LEAST);
        CHECK.due("BAD is no finding", x.count(8), 0);
        CHECK.due("get of a lost one", x.get(1, 0, 0), LEAST);
        CHECK.due("count(8): NULL", x.count(8), 1);
        CHECK.due("get of another form and place", x.get(0, 2, 4), LEAST);
        CHECK.due("count(8): CAST", x.count(8), 3);
        CHECK.due("get(0, 1, 4)", x.get(0, 1, 4), LEAST);
        CHECK.due("count(8): INDEX", x.count(8), 2);
        x.get(1, 0, 0);
        CHECK.due("get(0, 1, -1)", x.get(0, 1, -1), LEAST);
        CHECK.due("count(8): INDEX below 0", x.count(8), 2);
        CHECK.due("get(0, 1, 3)", x.get(0, 1, 3), 0);
        CHECK.due("count(8) stays", x.count(8), 2);
    }

    private static DeadLasts withRow(int... items) {
        DeadLasts x = new DeadLasts();
        x.sheet(0, 2, items.length);
        for (int i = 0; i < items.length; i++) {
            x.lay(0, 2, i, items[i]);
        }
        return x;
    }

    private static void row(String name, DeadLasts x, int s, int... want) {
        for (int i = 0; i < want.length; i++) {
            CHECK.due(name + ": item " + i, x.get(s, 2, i), want[i]);
        }
    }

    private static void copying() {
        DeadLasts x = withRow(1, 2, 3, 4, 5);
        CHECK.due("copy(-1, ..)", x.copy(-1, 0, 0, 0, 0), DeadLasts.BAD);
        CHECK.due("copy to 4", x.copy(0, 0, 4, 0, 0), DeadLasts.BAD);
        CHECK.due("copy of a lost one", x.copy(1, 0, 0, 0, 0), -11);
        CHECK.due("copy to a lost one", x.copy(0, 9, 1, 9, 9), -11);
        x.sheet(1, 1, 5);
        CHECK.due("STORE goes ahead of INDEX", x.copy(0, 9, 1, 9, 9), -14);
        CHECK.due("count(8)", x.count(8), 4);
        CHECK.due("forward", x.copy(0, 0, 0, 1, 4), 1);
        row("forward, as they were", x, 0, 1, 1, 2, 3, 4);
        CHECK.due("backward", x.copy(0, 2, 0, 0, 3), 1);
        row("backward, as they were", x, 0, 2, 3, 4, 3, 4);
        x.sheet(2, 2, 3);
        CHECK.due("to another", x.copy(0, 3, 2, 1, 2), 1);
        row("to another", x, 2, 0, 3, 4);
        CHECK.due("none from the end", x.copy(0, 5, 2, 3, 0), 1);
        int[][] wrong = {{-1, 0, 0}, {0, -1, 0}, {0, 0, -1}, {6, 0, 0}, {0, 4, 0}, {4, 0, 2}, {0, 2, 2},
            {0, 0, 4}, {1, 0, Integer.MAX_VALUE}, {Integer.MAX_VALUE, 0, 1}, {0, Integer.MAX_VALUE, 1},
            {LEAST, 0, 0}, {0, 0, LEAST}};
        for (int[] w : wrong) {
            CHECK.due("INDEX " + w[0] + " " + w[1] + " " + w[2], x.copy(0, w[0], 2, w[1], w[2]), -12);
        }
        row("nothing has changed", x, 2, 0, 3, 4);
        CHECK.due("count(8) then", x.count(8), 2);
    }

    private static void writing() {
        DeadLasts x = Check.made("...", "pe", "00000w;09000w");
        CHECK.due("write(2, 0)", x.write(2, 0), DeadLasts.BAD);
        CHECK.due("write(-1, 0)", x.write(-1, 0), DeadLasts.BAD);
        CHECK.due("write(0, 4)", x.write(0, 4), DeadLasts.BAD);
        CHECK.due("write(0, -1)", x.write(0, -1), DeadLasts.BAD);
        CHECK.due("write to a lost one", x.write(0, 0), -11);
        CHECK.due("count(8)", x.count(8), 1);
        for (int form = 0; form < 3; form++) {
            x.sheet(form, form, 4);
            CHECK.due("write", x.write(0, form), 4);
            int[] want = {1, 2, 2, 2};
            for (int i = 0; i < 4; i++) {
                CHECK.due("written in form " + form, x.get(form, form, i), want[i]);
            }
            CHECK.due("write of one who is lost", x.write(1, form), 4);
            CHECK.due("NONE", x.get(form, form, 3), -1);
        }
        x.sheet(3, 2, 60);
        x.lay(3, 2, 30, 77);
        CHECK.due("30 at most", x.write(0, 3), 30);
        CHECK.due("the last of them", x.get(3, 2, 29), 2);
        CHECK.due("the next is as it was", x.get(3, 2, 30), 77);
        x.sheet(3, 2, 0);
        CHECK.due("on a sheet without items", x.write(0, 3), 0);
    }

    private static void counting() {
        DeadLasts x = Check.made("..;.c", "pe;dn;tw", "00000w;09000w", 3, 4, 5, 6);
        x.seen(0, 0, 0);
        int[] want = {4, 3, 2, 5, 8, 13, 4, 1, 0};
        for (int what = 0; what <= 8; what++) {
            CHECK.due("count(" + what + ")", x.count(what), want[what]);
        }
        CHECK.due("count(9)", x.count(9), DeadLasts.BAD);
        CHECK.due("count(-1)", x.count(-1), DeadLasts.BAD);
        x.type(0, 'x');
        CHECK.due("with a fault no cells", x.count(0), 0);
        CHECK.due("but its bytes", x.count(3), 6);
    }
}
